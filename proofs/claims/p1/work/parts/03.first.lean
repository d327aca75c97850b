theorem dX11_within_0 : decode cX11_within 0 = .ok (.iload_n 0, 1) := by decide +kernel
theorem dX11_within_1 : decode cX11_within 1 = .ok (.iload_n 1, 1) := by decide +kernel
theorem dX11_within_2 : decode cX11_within 2 = .ok (.if_icmp .lt 12, 3) := by decide +kernel
theorem dX11_within_14 : decode cX11_within 14 = .ok (.iconst 0, 1) := by decide +kernel
theorem dX11_within_15 : decode cX11_within 15 = .ok (.ireturn, 1) := by decide +kernel
theorem dX11_within_5 : decode cX11_within 5 = .ok (.iload_n 0, 1) := by decide +kernel
theorem dX11_within_6 : decode cX11_within 6 = .ok (.iload_n 2, 1) := by decide +kernel
theorem dX11_within_7 : decode cX11_within 7 = .ok (.if_icmp .gt 7, 3) := by decide +kernel
theorem dX11_within_10 : decode cX11_within 10 = .ok (.iconst 1, 1) := by decide +kernel
theorem dX11_within_11 : decode cX11_within 11 = .ok (.goto 4, 3) := by decide +kernel
set_option maxHeartbeats 4000000 in
set_option maxRecDepth 100000 in
theorem c_within (l : Launch) (D : va_G) (ct : Nat → ClassId) (v : Int32) (lo : Int32) (hi : Int32)  : Met l yX11_within (wk yX11_within cX11_within 3 (some .boolean)) { frames := 0, cells := 0, slots := 0, locals := 0 } (va_Pc [.int v, .int lo, .int hi] (Wr D [] ct)) (zI (fun r : Int32 => r = bw v lo hi)) 0 0 (fun _ => False) := by
  refine Met.ofW (cc := cX11_within) (maxL := 3) (ret := (some .boolean)) (by decide) rfl ?_
  intro p e s m args below meth c s₁ B hml hv
  obtain ⟨rfl, hP, hKK⟩ := hv
  have hK := hKK.1
  have hx := B.exec
  have hb := B.bytes
  have hr := B.returns
  have hg : ∀ w ∈ gl, w.before _ s = true := fun w h => atoms_spec (ws := wk yX11_within cX11_within 3 (some .boolean)) B.pre w (List.mem_cons_of_mem _ h)
  have hown : s.vm.findClass RX11 = some m.cls := findClass_of_methodNamed B.named
  have hlocks := B.notSynchronized
  have hl := lv_entry ([.int v, .int lo, .int hi]) (n := 3) (Nat.le_of_ble_eq_true rfl)
  rw [lg_entry_eq]
  generalize (lg_sl ([.int v, .int lo, .int hi]) ++ List.replicate (3 - (lg_sl ([.int v, .int lo, .int hi])).length) Slot.unset).toArray = ls at hl ⊢
  have hl : lv_has ls 3 [(0, .int v), (1, .int lo), (2, .int hi)] := hl
  refine lv_iload_n hx hb dX11_within_0 rfl (lv_at hl 0 rfl) ?_
  refine lv_iload_n hx hb dX11_within_1 rfl (lv_at hl 1 rfl) ?_
  refine lv_icmp_lt (tgt := 14) hx hb dX11_within_2 (by decide) (fun c_1 => ?_) (fun c_1 => ?_)
  · refine lv_iconst (v := 0) hx hb dX11_within_14 (by decide) ?_
    exact W.zret (v := 0) hx hb hr rfl (fun t ht hW => ⟨0, rfl, (by simp only [bw, Int32.lt_iff_toInt_lt, Int32.le_iff_toInt_le] at *; split <;> first | rfl | omega), ht⟩) (fun q h => by cases h) dX11_within_15
  · refine lv_iload_n hx hb dX11_within_5 rfl (lv_at hl 0 rfl) ?_
    refine lv_iload_n hx hb dX11_within_6 rfl (lv_at hl 2 rfl) ?_
    refine lv_icmp_gt (tgt := 14) hx hb dX11_within_7 (by decide) (fun c_2 => ?_) (fun c_2 => ?_)
    · refine lv_iconst (v := 0) hx hb dX11_within_14 (by decide) ?_
      exact W.zret (v := 0) hx hb hr rfl (fun t ht hW => ⟨0, rfl, (by simp only [bw, Int32.lt_iff_toInt_lt, Int32.le_iff_toInt_le] at *; split <;> first | rfl | omega), ht⟩) (fun q h => by cases h) dX11_within_15
    · refine lv_iconst (v := 1) hx hb dX11_within_10 (by decide) ?_
      refine lv_goto (tgt := 15) hx hb dX11_within_11 (by decide) ?_
      exact W.zret (v := 1) hx hb hr rfl (fun t ht hW => ⟨1, rfl, (by simp only [bw, Int32.lt_iff_toInt_lt, Int32.le_iff_toInt_le] at *; split <;> first | rfl | omega), ht⟩) (fun q h => by cases h) dX11_within_15
theorem dX11_isDay_0 : decode cX11_isDay 0 = .ok (.iload_n 0, 1) := by decide +kernel
theorem dX11_isDay_1 : decode cX11_isDay 1 = .ok (.iconst 0, 1) := by decide +kernel
theorem dX11_isDay_2 : decode cX11_isDay 2 = .ok (.ldc 154, 2) := by decide +kernel
theorem wd_960 : (Cond.constant "VoteRoll" 154 (40000 : Int32)) ∈ gl := gl_at 960 (by decide +kernel) (by decide +kernel)
theorem dX11_isDay_4 : decode cX11_isDay 4 = .ok (.invokestatic 150, 3) := by decide +kernel
theorem wd_918 : (Cond.code yX11_within cX11_within 3 (some .boolean)) ∈ gl := gl_at 918 (by decide +kernel) (by decide +kernel)
theorem wd_959 : (Cond.methodLink "VoteRoll" 150 yX11_within) ∈ gl := gl_at 959 (by decide +kernel) (by decide +kernel)
theorem wd_107 : (Cond.initialized "VoteRoll") ∈ gl := gl_at 107 (by decide +kernel) (by decide +kernel)
theorem wd_917 : (Cond.static yX11_within) ∈ gl := gl_at 917 (by decide +kernel) (by decide +kernel)
theorem dX11_isDay_7 : decode cX11_isDay 7 = .ok (.ireturn, 1) := by decide +kernel
set_option maxHeartbeats 4000000 in
set_option maxRecDepth 100000 in
theorem c_isDay (l : Launch) (D : va_G) (ct : Nat → ClassId) (v : Int32)  : Met l yX11_isDay (wk yX11_isDay cX11_isDay 1 (some .boolean)) { frames := 1, cells := 0, slots := 0, locals := 22 } (va_Pc [.int v] (Wr D [] ct)) (zI (fun r : Int32 => r = bw v 0 40000)) 0 0 (fun _ => False) := by
  refine Met.ofW (cc := cX11_isDay) (maxL := 1) (ret := (some .boolean)) (by decide) rfl ?_
  intro p e s m args below meth c s₁ B hml hv
  obtain ⟨rfl, hP, hKK⟩ := hv
  have hK := hKK.1
  have hx := B.exec
  have hb := B.bytes
  have hr := B.returns
  have hg : ∀ w ∈ gl, w.before _ s = true := fun w h => atoms_spec (ws := wk yX11_isDay cX11_isDay 1 (some .boolean)) B.pre w (List.mem_cons_of_mem _ h)
  have hown : s.vm.findClass RX11 = some m.cls := findClass_of_methodNamed B.named
  have hlocks := B.notSynchronized
  have hl := lv_entry ([.int v]) (n := 1) (Nat.le_of_ble_eq_true rfl)
  rw [lg_entry_eq]
  generalize (lg_sl ([.int v]) ++ List.replicate (1 - (lg_sl ([.int v])).length) Slot.unset).toArray = ls at hl ⊢
  have hl : lv_has ls 1 [(0, .int v)] := hl
  refine lv_iload_n hx hb dX11_isDay_0 rfl (lv_at hl 0 rfl) ?_
  refine lv_iconst (v := 0) hx hb dX11_isDay_1 (by decide) ?_
  refine lv_ldc hx hb hown (hg _ wd_960) dX11_isDay_2 ?_
  have hPc := hP.sub (ws' := []) [] rfl
  refine z_calli (va_runS (As := [.int v, .int 0, .int 40000]) (rest := []) ⟨hx, hb, hml, hown, hg⟩ (c_within l D ct v 0 40000 ) (va_cwS 3 hg (gd_S wd_959 wd_917 wd_107 wd_918) rfl rfl rfl (by decide +kernel) ⟨Nat.le_of_ble_eq_true rfl, Nat.le_of_ble_eq_true rfl⟩) (Wr_S hPc hKK) rfl rfl hl.1 rfl (lv_room (Nat.le_of_ble_eq_true rfl)) dX11_isDay_4 ⟨Nat.le_of_ble_eq_true rfl, Nat.le_of_ble_eq_true rfl⟩) (fun r_1 hw_1 => ?_)
  subst hw_1
  exact W.zret (v := bw v 0 40000) hx hb hr (zb_bw v 0 40000) (fun t ht hW => ⟨bw v 0 40000, rfl, rfl, ht⟩) (fun q h => by cases h) dX11_isDay_7
theorem dX11_refuse_0 : decode cX11_refuse 0 = .ok (.aload_n 0, 1) := by decide +kernel
theorem dX11_refuse_1 : decode cX11_refuse 1 = .ok (.iload_n 1, 1) := by decide +kernel
theorem dX11_refuse_2 : decode cX11_refuse 2 = .ok (.putfield 104, 3) := by decide +kernel
theorem wd_697 : (Cond.fieldLink "VoteRoll" 104 "VoteRoll" "refusal" "I") ∈ gl := gl_at 697 (by decide +kernel) (by decide +kernel)
theorem dX11_refuse_5 : decode cX11_refuse 5 = .ok (.iload_n 1, 1) := by decide +kernel
theorem dX11_refuse_6 : decode cX11_refuse 6 = .ok (.ireturn, 1) := by decide +kernel
set_option maxHeartbeats 4000000 in
set_option maxRecDepth 100000 in
theorem c_refuse (l : Launch) (D : va_G) (ct : Nat → ClassId) (h : Nat) (y : Int32) (h_0 : Nat) (h_1 : Nat) (h_2 : Nat) (h_3 : Nat) (h_4 : Nat) (h_5 : Nat) (h_6 : Nat) (h_7 : Nat) (h_8 : Nat) (h_9 : Nat) (h_10 : Nat) (h_11 : Nat) (h_12 : Nat) (h_13 : Int32) (h_14 : Int32) (sz : Nat)  : Met l yX11_refuse (wk yX11_refuse cX11_refuse 2 (some .int)) { frames := 0, cells := 0, slots := 0, locals := 0 } (va_Pc [.ref h, .int y] (Wd D [(h, .inr (11, [.ref h_0, .ref h_1, .ref h_2, .ref h_3, .ref h_4, .ref h_5, .ref h_6, .ref h_7, .ref h_8, .ref h_9, .ref h_10, .ref h_11, .ref h_12, .int h_13, .int h_14]))] ct sz)) (va_Qi (fun (r : Int32) (u : Unit) => r = y) (fun _ _ => True) (va_A [(h, .inr (11, [.ref h_0, .ref h_1, .ref h_2, .ref h_3, .ref h_4, .ref h_5, .ref h_6, .ref h_7, .ref h_8, .ref h_9, .ref h_10, .ref h_11, .ref h_12, .int h_13, .int h_14]))] sz)) 0 0 (va_A [(h, .inr (11, [.ref h_0, .ref h_1, .ref h_2, .ref h_3, .ref h_4, .ref h_5, .ref h_6, .ref h_7, .ref h_8, .ref h_9, .ref h_10, .ref h_11, .ref h_12, .int h_13, .int h_14]))] sz) := by
  refine Met.ofW (cc := cX11_refuse) (maxL := 2) (ret := (some .int)) (by decide) rfl ?_
  intro p e s m args below meth c s₁ B hml hv
  obtain ⟨rfl, hsz, hP, hKK, hD0⟩ := hv
  have hK := hKK.1
  have hx := B.exec
  have hb := B.bytes
  have hr := B.returns
  have hg : ∀ w ∈ gl, w.before _ s = true := fun w h => atoms_spec (ws := wk yX11_refuse cX11_refuse 2 (some .int)) B.pre w (List.mem_cons_of_mem _ h)
  have hown : s.vm.findClass RX11 = some m.cls := findClass_of_methodNamed B.named
  have hlocks := B.notSynchronized
  subst hsz
  have hD := hD0.self (sz := s.heap.size)
  generalize hAe : va_A [(h, .inr (11, [.ref h_0, .ref h_1, .ref h_2, .ref h_3, .ref h_4, .ref h_5, .ref h_6, .ref h_7, .ref h_8, .ref h_9, .ref h_10, .ref h_11, .ref h_12, .int h_13, .int h_14]))] s.heap.size = A at hD ⊢
  have hA : ∀ q : Nat, s.heap.size ≤ q → A q := fun q h => by rw [← hAe]; exact Or.inr h
  have hS : va_S A s.heap s.heap [] := va_S.rf
  have hl := lv_entry ([.ref h, .int y]) (n := 2) (Nat.le_of_ble_eq_true rfl)
  rw [lg_entry_eq]
  generalize (lg_sl ([.ref h, .int y]) ++ List.replicate (2 - (lg_sl ([.ref h, .int y])).length) Slot.unset).toArray = ls at hl ⊢
  have hl : lv_has ls 2 [(0, .ref h), (1, .int y)] := hl
  refine lv_aload_n hx hb dX11_refuse_0 rfl (lv_at hl 0 rfl) ?_
  refine lv_iload_n hx hb dX11_refuse_1 rfl (lv_at hl 1 rfl) ?_
  refine va_put (D := D) (ci := 11) (v := .int y) (ty := .int) (C := RX11) (T := TX11) (N := 15) hx hb hg inX11 tyX11 tyX11_ok nmX11 hown hK hP hD hS 0 rfl rfl 14 (by decide) (hg _ wd_697) (fun _ h9 => h9) rfl (by decide +kernel) rfl rfl (Nat.le_of_ble_eq_true rfl) dX11_refuse_2 (fun H locs hP hD hS => ?_)
  have hP : va_P D vwCl [(h, .inr (11, [.ref h_0, .ref h_1, .ref h_2, .ref h_3, .ref h_4, .ref h_5, .ref h_6, .ref h_7, .ref h_8, .ref h_9, .ref h_10, .ref h_11, .ref h_12, .int h_13, .int y]))] H := hP
  have hD : va_D A [(h, .inr (11, [.ref h_0, .ref h_1, .ref h_2, .ref h_3, .ref h_4, .ref h_5, .ref h_6, .ref h_7, .ref h_8, .ref h_9, .ref h_10, .ref h_11, .ref h_12, .int h_13, .int y]))] := hD
  refine lv_iload_n hx hb dX11_refuse_5 rfl (lv_at hl 1 rfl) ?_
  exact W.iret (v := y) hx hb hr (fun t ht hW => ⟨⟨y, (), rfl, rfl, trivial⟩, hS.F ht⟩) hS.2.2 dX11_refuse_6
theorem dX11_accept_0 : decode cX11_accept 0 = .ok (.aload_n 0, 1) := by decide +kernel
theorem dX11_accept_1 : decode cX11_accept 1 = .ok (.iconst 0, 1) := by decide +kernel
theorem dX11_accept_2 : decode cX11_accept 2 = .ok (.putfield 104, 3) := by decide +kernel
theorem dX11_accept_5 : decode cX11_accept 5 = .ok (.iload_n 1, 1) := by decide +kernel
theorem dX11_accept_6 : decode cX11_accept 6 = .ok (.ireturn, 1) := by decide +kernel
set_option maxHeartbeats 4000000 in
set_option maxRecDepth 100000 in
theorem c_accept (l : Launch) (D : va_G) (ct : Nat → ClassId) (h : Nat) (y : Int32) (h_0 : Nat) (h_1 : Nat) (h_2 : Nat) (h_3 : Nat) (h_4 : Nat) (h_5 : Nat) (h_6 : Nat) (h_7 : Nat) (h_8 : Nat) (h_9 : Nat) (h_10 : Nat) (h_11 : Nat) (h_12 : Nat) (h_13 : Int32) (h_14 : Int32) (sz : Nat)  : Met l yX11_accept (wk yX11_accept cX11_accept 2 (some .int)) { frames := 0, cells := 0, slots := 0, locals := 0 } (va_Pc [.ref h, .int y] (Wd D [(h, .inr (11, [.ref h_0, .ref h_1, .ref h_2, .ref h_3, .ref h_4, .ref h_5, .ref h_6, .ref h_7, .ref h_8, .ref h_9, .ref h_10, .ref h_11, .ref h_12, .int h_13, .int h_14]))] ct sz)) (va_Qi (fun (r : Int32) (u : Unit) => r = y) (fun _ _ => True) (va_A [(h, .inr (11, [.ref h_0, .ref h_1, .ref h_2, .ref h_3, .ref h_4, .ref h_5, .ref h_6, .ref h_7, .ref h_8, .ref h_9, .ref h_10, .ref h_11, .ref h_12, .int h_13, .int h_14]))] sz)) 0 0 (va_A [(h, .inr (11, [.ref h_0, .ref h_1, .ref h_2, .ref h_3, .ref h_4, .ref h_5, .ref h_6, .ref h_7, .ref h_8, .ref h_9, .ref h_10, .ref h_11, .ref h_12, .int h_13, .int h_14]))] sz) := by
  refine Met.ofW (cc := cX11_accept) (maxL := 2) (ret := (some .int)) (by decide) rfl ?_
  intro p e s m args below meth c s₁ B hml hv
  obtain ⟨rfl, hsz, hP, hKK, hD0⟩ := hv
  have hK := hKK.1
  have hx := B.exec
  have hb := B.bytes
  have hr := B.returns
  have hg : ∀ w ∈ gl, w.before _ s = true := fun w h => atoms_spec (ws := wk yX11_accept cX11_accept 2 (some .int)) B.pre w (List.mem_cons_of_mem _ h)
  have hown : s.vm.findClass RX11 = some m.cls := findClass_of_methodNamed B.named
  have hlocks := B.notSynchronized
  subst hsz
  have hD := hD0.self (sz := s.heap.size)
  generalize hAe : va_A [(h, .inr (11, [.ref h_0, .ref h_1, .ref h_2, .ref h_3, .ref h_4, .ref h_5, .ref h_6, .ref h_7, .ref h_8, .ref h_9, .ref h_10, .ref h_11, .ref h_12, .int h_13, .int h_14]))] s.heap.size = A at hD ⊢
  have hA : ∀ q : Nat, s.heap.size ≤ q → A q := fun q h => by rw [← hAe]; exact Or.inr h
  have hS : va_S A s.heap s.heap [] := va_S.rf
  have hl := lv_entry ([.ref h, .int y]) (n := 2) (Nat.le_of_ble_eq_true rfl)
  rw [lg_entry_eq]
  generalize (lg_sl ([.ref h, .int y]) ++ List.replicate (2 - (lg_sl ([.ref h, .int y])).length) Slot.unset).toArray = ls at hl ⊢
  have hl : lv_has ls 2 [(0, .ref h), (1, .int y)] := hl
  refine lv_aload_n hx hb dX11_accept_0 rfl (lv_at hl 0 rfl) ?_
  refine lv_iconst (v := 0) hx hb dX11_accept_1 (by decide) ?_
  refine va_put (D := D) (ci := 11) (v := .int 0) (ty := .int) (C := RX11) (T := TX11) (N := 15) hx hb hg inX11 tyX11 tyX11_ok nmX11 hown hK hP hD hS 0 rfl rfl 14 (by decide) (hg _ wd_697) (fun _ h9 => h9) rfl (by decide +kernel) rfl rfl (Nat.le_of_ble_eq_true rfl) dX11_accept_2 (fun H locs hP hD hS => ?_)
  have hP : va_P D vwCl [(h, .inr (11, [.ref h_0, .ref h_1, .ref h_2, .ref h_3, .ref h_4, .ref h_5, .ref h_6, .ref h_7, .ref h_8, .ref h_9, .ref h_10, .ref h_11, .ref h_12, .int h_13, .int 0]))] H := hP
  have hD : va_D A [(h, .inr (11, [.ref h_0, .ref h_1, .ref h_2, .ref h_3, .ref h_4, .ref h_5, .ref h_6, .ref h_7, .ref h_8, .ref h_9, .ref h_10, .ref h_11, .ref h_12, .int h_13, .int 0]))] := hD
  refine lv_iload_n hx hb dX11_accept_5 rfl (lv_at hl 1 rfl) ?_
  exact W.iret (v := y) hx hb hr (fun t ht hW => ⟨⟨y, (), rfl, rfl, trivial⟩, hS.F ht⟩) hS.2.2 dX11_accept_6
theorem dX1_holds_0 : decode cX1_holds 0 = .ok (.iload_n 1, 1) := by decide +kernel
theorem dX1_holds_1 : decode cX1_holds 1 = .ok (.ifCond .lt 15, 3) := by decide +kernel
theorem dX1_holds_16 : decode cX1_holds 16 = .ok (.iconst 0, 1) := by decide +kernel
theorem dX1_holds_17 : decode cX1_holds 17 = .ok (.ireturn, 1) := by decide +kernel
theorem dX1_holds_4 : decode cX1_holds 4 = .ok (.iload_n 1, 1) := by decide +kernel
theorem dX1_holds_5 : decode cX1_holds 5 = .ok (.aload_n 0, 1) := by decide +kernel
theorem dX1_holds_6 : decode cX1_holds 6 = .ok (.getfield 59, 3) := by decide +kernel
theorem wd_283 : (Cond.fieldLink "VoteRoll$Book" 59 "VoteRoll$Book" "size" "I") ∈ gl := gl_at 283 (by decide +kernel) (by decide +kernel)
theorem dX1_holds_9 : decode cX1_holds 9 = .ok (.if_icmp .ge 7, 3) := by decide +kernel
theorem dX1_holds_12 : decode cX1_holds 12 = .ok (.iconst 1, 1) := by decide +kernel
theorem dX1_holds_13 : decode cX1_holds 13 = .ok (.goto 4, 3) := by decide +kernel
set_option maxHeartbeats 4000000 in
set_option maxRecDepth 100000 in
theorem c_holds0 (l : Launch) (D : va_G) (ct : Nat → ClassId) (b : Nat) (v : Int32) (b_0 : Nat) (b_1 : Nat) (b_2 : Nat) (b_3 : Nat) (b_4 : Nat) (b_5 : Nat) (b_6 : Nat) (b_7 : Nat) (b_8 : Nat) (b_9 : Nat) (b_10 : Nat) (b_11 : Nat) (b_12 : Nat)  : Met l yX1_holds (wk yX1_holds cX1_holds 2 (some .boolean)) { frames := 0, cells := 0, slots := 0, locals := 0 } (va_Pc [.ref b, .int v] (Wr D [(b, .inr (1, [.ref b_0, .ref b_1, .ref b_2, .ref b_3, .ref b_4, .ref b_5, .ref b_6, .ref b_7, .ref b_8, .ref b_9, .ref b_10, .ref b_11, .ref b_12, .int 0]))] ct)) (zI (fun r : Int32 => r = 0)) 0 0 (fun _ => False) := by
  refine Met.ofW (cc := cX1_holds) (maxL := 2) (ret := (some .boolean)) (by decide) rfl ?_
  intro p e s m args below meth c s₁ B hml hv
  obtain ⟨rfl, hP, hKK⟩ := hv
  have hK := hKK.1
  have hx := B.exec
  have hb := B.bytes
  have hr := B.returns
  have hg : ∀ w ∈ gl, w.before _ s = true := fun w h => atoms_spec (ws := wk yX1_holds cX1_holds 2 (some .boolean)) B.pre w (List.mem_cons_of_mem _ h)
  have hown : s.vm.findClass RX1 = some m.cls := findClass_of_methodNamed B.named
  have hlocks := B.notSynchronized
  have hl := lv_entry ([.ref b, .int v]) (n := 2) (Nat.le_of_ble_eq_true rfl)
  rw [lg_entry_eq]
  generalize (lg_sl ([.ref b, .int v]) ++ List.replicate (2 - (lg_sl ([.ref b, .int v])).length) Slot.unset).toArray = ls at hl ⊢
  have hl : lv_has ls 2 [(0, .ref b), (1, .int v)] := hl
  refine lv_iload_n hx hb dX1_holds_0 rfl (lv_at hl 1 rfl) ?_
  refine lv_if_lt (tgt := 16) hx hb dX1_holds_1 (by decide) (fun c_1 => ?_) (fun c_1 => ?_)
  · refine lv_iconst (v := 0) hx hb dX1_holds_16 (by decide) ?_
    exact W.zret (v := 0) hx hb hr rfl (fun t ht hW => ⟨0, rfl, rfl, ht⟩) (fun q h => by cases h) dX1_holds_17
  · refine lv_iload_n hx hb dX1_holds_4 rfl (lv_at hl 1 rfl) ?_
    refine lv_aload_n hx hb dX1_holds_5 rfl (lv_at hl 0 rfl) ?_
    refine va_get (D := D) (ci := 1) (v := .int 0) (C := RX1) (T := TX1) (N := 14) hx hb hg inX1 hown hK hP 0 rfl rfl 13 (by decide) (hg _ wd_283) (fun _ h9 => h9) rfl dX1_holds_6 ?_
    refine lv_icmp_ge (tgt := 16) hx hb dX1_holds_9 (by decide) (fun c_2 => ?_) (fun c_2 => ?_)
    · refine lv_iconst (v := 0) hx hb dX1_holds_16 (by decide) ?_
      exact W.zret (v := 0) hx hb hr rfl (fun t ht hW => ⟨0, rfl, rfl, ht⟩) (fun q h => by cases h) dX1_holds_17
    · refine lv_iconst (v := 1) hx hb dX1_holds_12 (by decide) ?_
      refine lv_goto (tgt := 17) hx hb dX1_holds_13 (by decide) ?_
      exact W.zret (v := 1) hx hb hr rfl (fun t ht hW => ⟨1, rfl, (by exfalso; simp only [Int32.lt_iff_toInt_lt, Int32.le_iff_toInt_le, show (0 : Int32).toInt = 0 from rfl] at *; omega), ht⟩) (fun q h => by cases h) dX1_holds_17
def sp_costs (a1 : Int32) (a2 : Int32) : Int32 := if bw a1 0 1000 = 0 then (-1) else if bw a2 0 1000 = 0 then (-1) else 0
theorem dX11_costs_0 : decode cX11_costs 0 = .ok (.iload_n 1, 1) := by decide +kernel
theorem dX11_costs_1 : decode cX11_costs 1 = .ok (.iconst 0, 1) := by decide +kernel
theorem dX11_costs_2 : decode cX11_costs 2 = .ok (.sipush 1000, 3) := by decide +kernel
theorem dX11_costs_5 : decode cX11_costs 5 = .ok (.invokestatic 150, 3) := by decide +kernel
theorem dX11_costs_8 : decode cX11_costs 8 = .ok (.ifCond .eq 14, 3) := by decide +kernel
theorem dX11_costs_22 : decode cX11_costs 22 = .ok (.aload_n 0, 1) := by decide +kernel
theorem dX11_costs_23 : decode cX11_costs 23 = .ok (.iconst (-1), 1) := by decide +kernel
theorem dX11_costs_24 : decode cX11_costs 24 = .ok (.invokevirtual 118, 3) := by decide +kernel
theorem wd_781 : (Cond.code yX11_refuse cX11_refuse 2 (some .int)) ∈ gl := gl_at 781 (by decide +kernel) (by decide +kernel)
theorem wd_778 : (Cond.methodLink "VoteRoll" 118 yX11_refuse) ∈ gl := gl_at 778 (by decide +kernel) (by decide +kernel)
theorem wd_780 : (Cond.instanceMethod yX11_refuse) ∈ gl := gl_at 780 (by decide +kernel) (by decide +kernel)
theorem wd_3 : (Cond.selects "VoteRoll" yX11_refuse yX11_refuse) ∈ gl := gl_at 3 (by decide +kernel) (by decide +kernel)
theorem dX11_costs_27 : decode cX11_costs 27 = .ok (.ireturn, 1) := by decide +kernel
theorem dX11_costs_11 : decode cX11_costs 11 = .ok (.iload_n 2, 1) := by decide +kernel
theorem dX11_costs_12 : decode cX11_costs 12 = .ok (.iconst 0, 1) := by decide +kernel
theorem dX11_costs_13 : decode cX11_costs 13 = .ok (.sipush 1000, 3) := by decide +kernel
theorem dX11_costs_16 : decode cX11_costs 16 = .ok (.invokestatic 150, 3) := by decide +kernel
theorem dX11_costs_19 : decode cX11_costs 19 = .ok (.ifCond .ne 9, 3) := by decide +kernel
theorem dX11_costs_28 : decode cX11_costs 28 = .ok (.aload_n 0, 1) := by decide +kernel
theorem dX11_costs_29 : decode cX11_costs 29 = .ok (.getfield 96, 3) := by decide +kernel
theorem wd_695 : (Cond.fieldLink "VoteRoll" 96 "VoteRoll" "planner" "LVoteRoll$Plan;") ∈ gl := gl_at 695 (by decide +kernel) (by decide +kernel)
theorem dX11_costs_32 : decode cX11_costs 32 = .ok (.iload_n 1, 1) := by decide +kernel
theorem dX11_costs_33 : decode cX11_costs 33 = .ok (.putfield 399, 3) := by decide +kernel
theorem wd_643 : (Cond.fieldLink "VoteRoll" 399 "VoteRoll$Plan" "letterCost" "I") ∈ gl := gl_at 643 (by decide +kernel) (by decide +kernel)
theorem dX11_costs_36 : decode cX11_costs 36 = .ok (.aload_n 0, 1) := by decide +kernel
theorem dX11_costs_37 : decode cX11_costs 37 = .ok (.getfield 96, 3) := by decide +kernel
theorem dX11_costs_40 : decode cX11_costs 40 = .ok (.iload_n 2, 1) := by decide +kernel
theorem dX11_costs_41 : decode cX11_costs 41 = .ok (.putfield 402, 3) := by decide +kernel
theorem wd_645 : (Cond.fieldLink "VoteRoll" 402 "VoteRoll$Plan" "knockCost" "I") ∈ gl := gl_at 645 (by decide +kernel) (by decide +kernel)
theorem dX11_costs_44 : decode cX11_costs 44 = .ok (.aload_n 0, 1) := by decide +kernel
theorem dX11_costs_45 : decode cX11_costs 45 = .ok (.iconst 0, 1) := by decide +kernel
theorem dX11_costs_46 : decode cX11_costs 46 = .ok (.invokevirtual 140, 3) := by decide +kernel
theorem wd_808 : (Cond.code yX11_accept cX11_accept 2 (some .int)) ∈ gl := gl_at 808 (by decide +kernel) (by decide +kernel)
theorem wd_805 : (Cond.methodLink "VoteRoll" 140 yX11_accept) ∈ gl := gl_at 805 (by decide +kernel) (by decide +kernel)
theorem wd_807 : (Cond.instanceMethod yX11_accept) ∈ gl := gl_at 807 (by decide +kernel) (by decide +kernel)
theorem wd_5 : (Cond.selects "VoteRoll" yX11_accept yX11_accept) ∈ gl := gl_at 5 (by decide +kernel) (by decide +kernel)
theorem dX11_costs_49 : decode cX11_costs 49 = .ok (.ireturn, 1) := by decide +kernel
set_option maxHeartbeats 4000000 in
set_option maxRecDepth 100000 in
theorem c_costs (l : Launch) (D : va_G) (ct : Nat → ClassId) (h : Nat) (a1 : Int32) (a2 : Int32) (h_0 : Nat) (h_1 : Nat) (h_2 : Nat) (h_3 : Nat) (h_4 : Nat) (h_5 : Nat) (h_6 : Nat) (h_7 : Nat) (h_8 : Nat) (h_9 : Nat) (h_10 : Nat) (h_11 : Nat) (h_12 : Nat) (h_13 : Int32) (h_14 : Int32) (h_12_0 : Nat) (h_12_1 : Nat) (h_12_2 : Int32) (h_12_3 : Nat) (h_12_4 : Nat) (h_12_5 : Int32) (h_12_6 : Int32) (h_12_7 : Nat) (h_12_8 : Int32) (h_12_9 : Int32) (h_12_10 : Int32) (h_12_11 : Nat) (h_12_12 : Nat) (sz : Nat)  : Met l yX11_costs (wk yX11_costs cX11_costs 3 (some .int)) { frames := 1, cells := 0, slots := 0, locals := 22 } (va_Pc [.ref h, .int a1, .int a2] (Wd D [(h, .inr (11, [.ref h_0, .ref h_1, .ref h_2, .ref h_3, .ref h_4, .ref h_5, .ref h_6, .ref h_7, .ref h_8, .ref h_9, .ref h_10, .ref h_11, .ref h_12, .int h_13, .int h_14])), (h_12, .inr (9, [.ref h_12_0, .ref h_12_1, .int h_12_2, .ref h_12_3, .ref h_12_4, .int h_12_5, .int h_12_6, .ref h_12_7, .int h_12_8, .int h_12_9, .int h_12_10, .ref h_12_11, .ref h_12_12]))] ct sz)) (va_Qi (fun (r : Int32) (u : Unit) => r = sp_costs a1 a2) (fun _ _ => True) (va_A [(h, .inr (11, [.ref h_0, .ref h_1, .ref h_2, .ref h_3, .ref h_4, .ref h_5, .ref h_6, .ref h_7, .ref h_8, .ref h_9, .ref h_10, .ref h_11, .ref h_12, .int h_13, .int h_14])), (h_12, .inr (9, [.ref h_12_0, .ref h_12_1, .int h_12_2, .ref h_12_3, .ref h_12_4, .int h_12_5, .int h_12_6, .ref h_12_7, .int h_12_8, .int h_12_9, .int h_12_10, .ref h_12_11, .ref h_12_12]))] sz)) 0 0 (va_A [(h, .inr (11, [.ref h_0, .ref h_1, .ref h_2, .ref h_3, .ref h_4, .ref h_5, .ref h_6, .ref h_7, .ref h_8, .ref h_9, .ref h_10, .ref h_11, .ref h_12, .int h_13, .int h_14])), (h_12, .inr (9, [.ref h_12_0, .ref h_12_1, .int h_12_2, .ref h_12_3, .ref h_12_4, .int h_12_5, .int h_12_6, .ref h_12_7, .int h_12_8, .int h_12_9, .int h_12_10, .ref h_12_11, .ref h_12_12]))] sz) := by
  refine Met.ofW (cc := cX11_costs) (maxL := 3) (ret := (some .int)) (by decide) rfl ?_
  intro p e s m args below meth c s₁ B hml hv
  obtain ⟨rfl, hsz, hP, hKK, hD0⟩ := hv
  have hK := hKK.1
  have hx := B.exec
  have hb := B.bytes
  have hr := B.returns
  have hg : ∀ w ∈ gl, w.before _ s = true := fun w h => atoms_spec (ws := wk yX11_costs cX11_costs 3 (some .int)) B.pre w (List.mem_cons_of_mem _ h)
  have hown : s.vm.findClass RX11 = some m.cls := findClass_of_methodNamed B.named
  have hlocks := B.notSynchronized
  subst hsz
  have hD := hD0.self (sz := s.heap.size)
  generalize hAe : va_A [(h, .inr (11, [.ref h_0, .ref h_1, .ref h_2, .ref h_3, .ref h_4, .ref h_5, .ref h_6, .ref h_7, .ref h_8, .ref h_9, .ref h_10, .ref h_11, .ref h_12, .int h_13, .int h_14])), (h_12, .inr (9, [.ref h_12_0, .ref h_12_1, .int h_12_2, .ref h_12_3, .ref h_12_4, .int h_12_5, .int h_12_6, .ref h_12_7, .int h_12_8, .int h_12_9, .int h_12_10, .ref h_12_11, .ref h_12_12]))] s.heap.size = A at hD ⊢
  have hA : ∀ q : Nat, s.heap.size ≤ q → A q := fun q h => by rw [← hAe]; exact Or.inr h
  have hS : va_S A s.heap s.heap [] := va_S.rf
  have hl := lv_entry ([.ref h, .int a1, .int a2]) (n := 3) (Nat.le_of_ble_eq_true rfl)
  rw [lg_entry_eq]
  generalize (lg_sl ([.ref h, .int a1, .int a2]) ++ List.replicate (3 - (lg_sl ([.ref h, .int a1, .int a2])).length) Slot.unset).toArray = ls at hl ⊢
  have hl : lv_has ls 3 [(0, .ref h), (1, .int a1), (2, .int a2)] := hl
  refine lv_iload_n hx hb dX11_costs_0 rfl (lv_at hl 1 rfl) ?_
  refine lv_iconst (v := 0) hx hb dX11_costs_1 (by decide) ?_
  refine lv_sipush (v := 1000) hx hb dX11_costs_2 (by decide) ?_
  have hPc := hP.sub (ws' := []) [] rfl
  refine z_calli (va_runS (As := [.int a1, .int 0, .int 1000]) (rest := []) ⟨hx, hb, hml, hown, hg⟩ (c_within l D ct a1 0 1000 ) (va_cwS 3 hg (gd_S wd_959 wd_917 wd_107 wd_918) rfl rfl rfl (by decide +kernel) ⟨Nat.le_of_ble_eq_true rfl, Nat.le_of_ble_eq_true rfl⟩) (Wr_S hPc hKK) rfl rfl hl.1 rfl (lv_room (Nat.le_of_ble_eq_true rfl)) dX11_costs_5 ⟨Nat.le_of_ble_eq_true rfl, Nat.le_of_ble_eq_true rfl⟩) (fun r_1 hw_1 => ?_)
  subst hw_1
  refine lv_if_eq (tgt := 22) hx hb dX11_costs_8 (by decide) (fun c_2 => ?_) (fun c_2 => ?_)
  · refine lv_aload_n hx hb dX11_costs_22 rfl (lv_at hl 0 rfl) ?_
    refine lv_iconst (v := (-1)) hx hb dX11_costs_23 (by decide) ?_
    have hPc := hP.sub (ws' := [(h, .inr (11, [.ref h_0, .ref h_1, .ref h_2, .ref h_3, .ref h_4, .ref h_5, .ref h_6, .ref h_7, .ref h_8, .ref h_9, .ref h_10, .ref h_11, .ref h_12, .int h_13, .int h_14]))]) [0] rfl
    have hDc := hD.sub (ws' := [(h, .inr (11, [.ref h_0, .ref h_1, .ref h_2, .ref h_3, .ref h_4, .ref h_5, .ref h_6, .ref h_7, .ref h_8, .ref h_9, .ref h_10, .ref h_11, .ref h_12, .int h_13, .int h_14]))]) [0] (by decide) rfl
    have hFc := va_free (wc := [(h, .inr (11, [.ref h_0, .ref h_1, .ref h_2, .ref h_3, .ref h_4, .ref h_5, .ref h_6, .ref h_7, .ref h_8, .ref h_9, .ref h_10, .ref h_11, .ref h_12, .int h_13, .int h_14]))]) hD hS hA [0] rfl
    refine va_calli (va_runV (As := [.int (-1)]) (rest := []) ⟨hx, hb, hml, hown, hg⟩ (c_refuse l D ct h (-1) h_0 h_1 h_2 h_3 h_4 h_5 h_6 h_7 h_8 h_9 h_10 h_11 h_12 h_13 h_14 s.heap.size ) (cwV 1 hg (gd_V wd_778 wd_780 wd_3 wd_107 wd_781) rfl rfl rfl (by decide +kernel) ⟨Nat.le_of_ble_eq_true rfl, Nat.le_of_ble_eq_true rfl⟩) (Wd_V hPc hKK hDc (va_recv hK hPc (ci := 11) (q0 := 0) rfl rfl)) rfl rfl hl.1 rfl (lv_room (Nat.le_of_ble_eq_true rfl)) dX11_costs_24 ⟨Nat.le_of_ble_eq_true rfl, Nat.le_of_ble_eq_true rfl⟩) hS (fun q _ h => hFc q h) hFc (fun r_3 u_3 t_3 H1 locs ht_3 hvm_3 hw_3 hB_3 hz_3 hk_3 hS => ?_)
    obtain ⟨hP, hD⟩ := va_join (wr := [(h_12, .inr (9, [.ref h_12_0, .ref h_12_1, .int h_12_2, .ref h_12_3, .ref h_12_4, .int h_12_5, .int h_12_6, .ref h_12_7, .int h_12_8, .int h_12_9, .int h_12_10, .ref h_12_11, .ref h_12_12]))]) (w1 := []) hP hD [0] [1] rfl rfl (by decide) (by decide) hk_3 hFc (fun k q h => by simp at h) ⟨fun i j p q h => by simp at h, fun k q h => by simp at h⟩
    generalize H1 = H at hP hS ⊢
    have hP : va_P D vwCl [(h_12, .inr (9, [.ref h_12_0, .ref h_12_1, .int h_12_2, .ref h_12_3, .ref h_12_4, .int h_12_5, .int h_12_6, .ref h_12_7, .int h_12_8, .int h_12_9, .int h_12_10, .ref h_12_11, .ref h_12_12]))] H := hP
    have hD : va_D A [(h_12, .inr (9, [.ref h_12_0, .ref h_12_1, .int h_12_2, .ref h_12_3, .ref h_12_4, .int h_12_5, .int h_12_6, .ref h_12_7, .int h_12_8, .int h_12_9, .int h_12_10, .ref h_12_11, .ref h_12_12]))] := hD
    subst hw_3
    exact W.iret (v := (-1)) hx hb hr (fun t ht hW => ⟨⟨(-1), (), rfl, (by simp [sp_costs, c_2]), trivial⟩, hS.F ht⟩) hS.2.2 dX11_costs_27
  · refine lv_iload_n hx hb dX11_costs_11 rfl (lv_at hl 2 rfl) ?_
    refine lv_iconst (v := 0) hx hb dX11_costs_12 (by decide) ?_
    refine lv_sipush (v := 1000) hx hb dX11_costs_13 (by decide) ?_
    have hPc := hP.sub (ws' := []) [] rfl
    refine z_calli (va_runS (As := [.int a2, .int 0, .int 1000]) (rest := []) ⟨hx, hb, hml, hown, hg⟩ (c_within l D ct a2 0 1000 ) (va_cwS 3 hg (gd_S wd_959 wd_917 wd_107 wd_918) rfl rfl rfl (by decide +kernel) ⟨Nat.le_of_ble_eq_true rfl, Nat.le_of_ble_eq_true rfl⟩) (Wr_S hPc hKK) rfl rfl hl.1 rfl (lv_room (Nat.le_of_ble_eq_true rfl)) dX11_costs_16 ⟨Nat.le_of_ble_eq_true rfl, Nat.le_of_ble_eq_true rfl⟩) (fun r_4 hw_4 => ?_)
    subst hw_4
    refine lv_if_ne (tgt := 28) hx hb dX11_costs_19 (by decide) (fun c_5 => ?_) (fun c_5 => ?_)
    · refine lv_aload_n hx hb dX11_costs_28 rfl (lv_at hl 0 rfl) ?_
      refine va_get (D := D) (ci := 11) (v := .ref h_12) (C := RX11) (T := TX11) (N := 15) hx hb hg inX11 hown hK hP 0 rfl rfl 12 (by decide) (hg _ wd_695) (fun _ h9 => h9) rfl dX11_costs_29 ?_
      refine lv_iload_n hx hb dX11_costs_32 rfl (lv_at hl 1 rfl) ?_
      refine va_put (D := D) (ci := 9) (v := .int a1) (ty := .int) (C := RX9) (T := TX9) (N := 13) hx hb hg inX9 tyX9 tyX9_ok nmX9 hown hK hP hD hS 1 rfl rfl 5 (by decide) (hg _ wd_643) (fun _ h9 => h9) rfl (by decide +kernel) rfl rfl (Nat.le_of_ble_eq_true rfl) dX11_costs_33 (fun H locs hP hD hS => ?_)
      have hP : va_P D vwCl [(h, .inr (11, [.ref h_0, .ref h_1, .ref h_2, .ref h_3, .ref h_4, .ref h_5, .ref h_6, .ref h_7, .ref h_8, .ref h_9, .ref h_10, .ref h_11, .ref h_12, .int h_13, .int h_14])), (h_12, .inr (9, [.ref h_12_0, .ref h_12_1, .int h_12_2, .ref h_12_3, .ref h_12_4, .int a1, .int h_12_6, .ref h_12_7, .int h_12_8, .int h_12_9, .int h_12_10, .ref h_12_11, .ref h_12_12]))] H := hP
      have hD : va_D A [(h, .inr (11, [.ref h_0, .ref h_1, .ref h_2, .ref h_3, .ref h_4, .ref h_5, .ref h_6, .ref h_7, .ref h_8, .ref h_9, .ref h_10, .ref h_11, .ref h_12, .int h_13, .int h_14])), (h_12, .inr (9, [.ref h_12_0, .ref h_12_1, .int h_12_2, .ref h_12_3, .ref h_12_4, .int a1, .int h_12_6, .ref h_12_7, .int h_12_8, .int h_12_9, .int h_12_10, .ref h_12_11, .ref h_12_12]))] := hD
      refine lv_aload_n hx hb dX11_costs_36 rfl (lv_at hl 0 rfl) ?_
      refine va_get (D := D) (ci := 11) (v := .ref h_12) (C := RX11) (T := TX11) (N := 15) hx hb hg inX11 hown hK hP 0 rfl rfl 12 (by decide) (hg _ wd_695) (fun _ h9 => h9) rfl dX11_costs_37 ?_
      refine lv_iload_n hx hb dX11_costs_40 rfl (lv_at hl 2 rfl) ?_
      refine va_put (D := D) (ci := 9) (v := .int a2) (ty := .int) (C := RX9) (T := TX9) (N := 13) hx hb hg inX9 tyX9 tyX9_ok nmX9 hown hK hP hD hS 1 rfl rfl 6 (by decide) (hg _ wd_645) (fun _ h9 => h9) rfl (by decide +kernel) rfl rfl (Nat.le_of_ble_eq_true rfl) dX11_costs_41 (fun H locs hP hD hS => ?_)
      have hP : va_P D vwCl [(h, .inr (11, [.ref h_0, .ref h_1, .ref h_2, .ref h_3, .ref h_4, .ref h_5, .ref h_6, .ref h_7, .ref h_8, .ref h_9, .ref h_10, .ref h_11, .ref h_12, .int h_13, .int h_14])), (h_12, .inr (9, [.ref h_12_0, .ref h_12_1, .int h_12_2, .ref h_12_3, .ref h_12_4, .int a1, .int a2, .ref h_12_7, .int h_12_8, .int h_12_9, .int h_12_10, .ref h_12_11, .ref h_12_12]))] H := hP
      have hD : va_D A [(h, .inr (11, [.ref h_0, .ref h_1, .ref h_2, .ref h_3, .ref h_4, .ref h_5, .ref h_6, .ref h_7, .ref h_8, .ref h_9, .ref h_10, .ref h_11, .ref h_12, .int h_13, .int h_14])), (h_12, .inr (9, [.ref h_12_0, .ref h_12_1, .int h_12_2, .ref h_12_3, .ref h_12_4, .int a1, .int a2, .ref h_12_7, .int h_12_8, .int h_12_9, .int h_12_10, .ref h_12_11, .ref h_12_12]))] := hD
      refine lv_aload_n hx hb dX11_costs_44 rfl (lv_at hl 0 rfl) ?_
      refine lv_iconst (v := 0) hx hb dX11_costs_45 (by decide) ?_
      have hPc := hP.sub (ws' := [(h, .inr (11, [.ref h_0, .ref h_1, .ref h_2, .ref h_3, .ref h_4, .ref h_5, .ref h_6, .ref h_7, .ref h_8, .ref h_9, .ref h_10, .ref h_11, .ref h_12, .int h_13, .int h_14]))]) [0] rfl
      have hDc := hD.sub (ws' := [(h, .inr (11, [.ref h_0, .ref h_1, .ref h_2, .ref h_3, .ref h_4, .ref h_5, .ref h_6, .ref h_7, .ref h_8, .ref h_9, .ref h_10, .ref h_11, .ref h_12, .int h_13, .int h_14]))]) [0] (by decide) rfl
      have hFc := va_free (wc := [(h, .inr (11, [.ref h_0, .ref h_1, .ref h_2, .ref h_3, .ref h_4, .ref h_5, .ref h_6, .ref h_7, .ref h_8, .ref h_9, .ref h_10, .ref h_11, .ref h_12, .int h_13, .int h_14]))]) hD hS hA [0] rfl
      refine va_calli (va_runV (As := [.int 0]) (rest := []) ⟨hx, hb, hml, hown, hg⟩ (c_accept l D ct h 0 h_0 h_1 h_2 h_3 h_4 h_5 h_6 h_7 h_8 h_9 h_10 h_11 h_12 h_13 h_14 H.size ) (cwV 1 hg (gd_V wd_805 wd_807 wd_5 wd_107 wd_808) rfl rfl rfl (by decide +kernel) ⟨Nat.le_of_ble_eq_true rfl, Nat.le_of_ble_eq_true rfl⟩) (Wd_V hPc hKK hDc (va_recv hK hPc (ci := 11) (q0 := 0) rfl rfl)) rfl rfl hl.1 rfl (lv_room (Nat.le_of_ble_eq_true rfl)) dX11_costs_46 ⟨Nat.le_of_ble_eq_true rfl, Nat.le_of_ble_eq_true rfl⟩) hS (fun q _ h => hFc q h) hFc (fun r_6 u_6 t_6 H1 locs ht_6 hvm_6 hw_6 hB_6 hz_6 hk_6 hS => ?_)
      obtain ⟨hP, hD⟩ := va_join (wr := [(h_12, .inr (9, [.ref h_12_0, .ref h_12_1, .int h_12_2, .ref h_12_3, .ref h_12_4, .int a1, .int a2, .ref h_12_7, .int h_12_8, .int h_12_9, .int h_12_10, .ref h_12_11, .ref h_12_12]))]) (w1 := []) hP hD [0] [1] rfl rfl (by decide) (by decide) hk_6 hFc (fun k q h => by simp at h) ⟨fun i j p q h => by simp at h, fun k q h => by simp at h⟩
      generalize H1 = H at hP hS ⊢
      have hP : va_P D vwCl [(h_12, .inr (9, [.ref h_12_0, .ref h_12_1, .int h_12_2, .ref h_12_3, .ref h_12_4, .int a1, .int a2, .ref h_12_7, .int h_12_8, .int h_12_9, .int h_12_10, .ref h_12_11, .ref h_12_12]))] H := hP
      have hD : va_D A [(h_12, .inr (9, [.ref h_12_0, .ref h_12_1, .int h_12_2, .ref h_12_3, .ref h_12_4, .int a1, .int a2, .ref h_12_7, .int h_12_8, .int h_12_9, .int h_12_10, .ref h_12_11, .ref h_12_12]))] := hD
      subst hw_6
      exact W.iret (v := 0) hx hb hr (fun t ht hW => ⟨⟨0, (), rfl, (by simp [sp_costs, c_2, c_5]), trivial⟩, hS.F ht⟩) hS.2.2 dX11_costs_49
    · refine lv_aload_n hx hb dX11_costs_22 rfl (lv_at hl 0 rfl) ?_
      refine lv_iconst (v := (-1)) hx hb dX11_costs_23 (by decide) ?_
      have hPc := hP.sub (ws' := [(h, .inr (11, [.ref h_0, .ref h_1, .ref h_2, .ref h_3, .ref h_4, .ref h_5, .ref h_6, .ref h_7, .ref h_8, .ref h_9, .ref h_10, .ref h_11, .ref h_12, .int h_13, .int h_14]))]) [0] rfl
      have hDc := hD.sub (ws' := [(h, .inr (11, [.ref h_0, .ref h_1, .ref h_2, .ref h_3, .ref h_4, .ref h_5, .ref h_6, .ref h_7, .ref h_8, .ref h_9, .ref h_10, .ref h_11, .ref h_12, .int h_13, .int h_14]))]) [0] (by decide) rfl
      have hFc := va_free (wc := [(h, .inr (11, [.ref h_0, .ref h_1, .ref h_2, .ref h_3, .ref h_4, .ref h_5, .ref h_6, .ref h_7, .ref h_8, .ref h_9, .ref h_10, .ref h_11, .ref h_12, .int h_13, .int h_14]))]) hD hS hA [0] rfl
      refine va_calli (va_runV (As := [.int (-1)]) (rest := []) ⟨hx, hb, hml, hown, hg⟩ (c_refuse l D ct h (-1) h_0 h_1 h_2 h_3 h_4 h_5 h_6 h_7 h_8 h_9 h_10 h_11 h_12 h_13 h_14 s.heap.size ) (cwV 1 hg (gd_V wd_778 wd_780 wd_3 wd_107 wd_781) rfl rfl rfl (by decide +kernel) ⟨Nat.le_of_ble_eq_true rfl, Nat.le_of_ble_eq_true rfl⟩) (Wd_V hPc hKK hDc (va_recv hK hPc (ci := 11) (q0 := 0) rfl rfl)) rfl rfl hl.1 rfl (lv_room (Nat.le_of_ble_eq_true rfl)) dX11_costs_24 ⟨Nat.le_of_ble_eq_true rfl, Nat.le_of_ble_eq_true rfl⟩) hS (fun q _ h => hFc q h) hFc (fun r_7 u_7 t_7 H1 locs ht_7 hvm_7 hw_7 hB_7 hz_7 hk_7 hS => ?_)
      obtain ⟨hP, hD⟩ := va_join (wr := [(h_12, .inr (9, [.ref h_12_0, .ref h_12_1, .int h_12_2, .ref h_12_3, .ref h_12_4, .int h_12_5, .int h_12_6, .ref h_12_7, .int h_12_8, .int h_12_9, .int h_12_10, .ref h_12_11, .ref h_12_12]))]) (w1 := []) hP hD [0] [1] rfl rfl (by decide) (by decide) hk_7 hFc (fun k q h => by simp at h) ⟨fun i j p q h => by simp at h, fun k q h => by simp at h⟩
      generalize H1 = H at hP hS ⊢
      have hP : va_P D vwCl [(h_12, .inr (9, [.ref h_12_0, .ref h_12_1, .int h_12_2, .ref h_12_3, .ref h_12_4, .int h_12_5, .int h_12_6, .ref h_12_7, .int h_12_8, .int h_12_9, .int h_12_10, .ref h_12_11, .ref h_12_12]))] H := hP
      have hD : va_D A [(h_12, .inr (9, [.ref h_12_0, .ref h_12_1, .int h_12_2, .ref h_12_3, .ref h_12_4, .int h_12_5, .int h_12_6, .ref h_12_7, .int h_12_8, .int h_12_9, .int h_12_10, .ref h_12_11, .ref h_12_12]))] := hD
      subst hw_7
      exact W.iret (v := (-1)) hx hb hr (fun t ht hW => ⟨⟨(-1), (), rfl, (by simp [sp_costs, c_2, c_5]), trivial⟩, hS.F ht⟩) hS.2.2 dX11_costs_27
def sp_chances (a1 : Int32) (a2 : Int32) (a3 : Int32) : Int32 := if bw a1 0 3 = 0 then (-1) else if bw a2 0 1000 = 0 then (-1) else if bw a3 0 1000 = 0 then (-1) else 0
theorem dX11_chances_0 : decode cX11_chances 0 = .ok (.iload_n 1, 1) := by decide +kernel
theorem dX11_chances_1 : decode cX11_chances 1 = .ok (.iconst 0, 1) := by decide +kernel
theorem dX11_chances_2 : decode cX11_chances 2 = .ok (.iconst 3, 1) := by decide +kernel
theorem dX11_chances_3 : decode cX11_chances 3 = .ok (.invokestatic 150, 3) := by decide +kernel
theorem dX11_chances_6 : decode cX11_chances 6 = .ok (.ifCond .eq 25, 3) := by decide +kernel
theorem dX11_chances_31 : decode cX11_chances 31 = .ok (.aload_n 0, 1) := by decide +kernel
theorem dX11_chances_32 : decode cX11_chances 32 = .ok (.iconst (-1), 1) := by decide +kernel
theorem dX11_chances_33 : decode cX11_chances 33 = .ok (.invokevirtual 118, 3) := by decide +kernel
theorem dX11_chances_36 : decode cX11_chances 36 = .ok (.ireturn, 1) := by decide +kernel
theorem dX11_chances_9 : decode cX11_chances 9 = .ok (.iload_n 2, 1) := by decide +kernel
theorem dX11_chances_10 : decode cX11_chances 10 = .ok (.iconst 0, 1) := by decide +kernel
theorem dX11_chances_11 : decode cX11_chances 11 = .ok (.sipush 1000, 3) := by decide +kernel
theorem dX11_chances_14 : decode cX11_chances 14 = .ok (.invokestatic 150, 3) := by decide +kernel
theorem dX11_chances_17 : decode cX11_chances 17 = .ok (.ifCond .eq 14, 3) := by decide +kernel
theorem dX11_chances_20 : decode cX11_chances 20 = .ok (.iload_n 3, 1) := by decide +kernel
theorem dX11_chances_21 : decode cX11_chances 21 = .ok (.iconst 0, 1) := by decide +kernel
theorem dX11_chances_22 : decode cX11_chances 22 = .ok (.sipush 1000, 3) := by decide +kernel
theorem dX11_chances_25 : decode cX11_chances 25 = .ok (.invokestatic 150, 3) := by decide +kernel
theorem dX11_chances_28 : decode cX11_chances 28 = .ok (.ifCond .ne 9, 3) := by decide +kernel
theorem dX11_chances_37 : decode cX11_chances 37 = .ok (.aload_n 0, 1) := by decide +kernel
theorem dX11_chances_38 : decode cX11_chances 38 = .ok (.getfield 96, 3) := by decide +kernel
theorem dX11_chances_41 : decode cX11_chances 41 = .ok (.getfield 393, 3) := by decide +kernel
theorem wd_639 : (Cond.fieldLink "VoteRoll" 393 "VoteRoll$Plan" "letterChance" "[I") ∈ gl := gl_at 639 (by decide +kernel) (by decide +kernel)
theorem dX11_chances_44 : decode cX11_chances 44 = .ok (.iload_n 1, 1) := by decide +kernel
theorem dX11_chances_45 : decode cX11_chances 45 = .ok (.iload_n 2, 1) := by decide +kernel
theorem dX11_chances_46 : decode cX11_chances 46 = .ok (.iastore, 1) := by decide +kernel
theorem dX11_chances_47 : decode cX11_chances 47 = .ok (.aload_n 0, 1) := by decide +kernel
theorem dX11_chances_48 : decode cX11_chances 48 = .ok (.getfield 96, 3) := by decide +kernel
theorem dX11_chances_51 : decode cX11_chances 51 = .ok (.getfield 396, 3) := by decide +kernel
theorem wd_641 : (Cond.fieldLink "VoteRoll" 396 "VoteRoll$Plan" "knockChance" "[I") ∈ gl := gl_at 641 (by decide +kernel) (by decide +kernel)
theorem dX11_chances_54 : decode cX11_chances 54 = .ok (.iload_n 1, 1) := by decide +kernel
theorem dX11_chances_55 : decode cX11_chances 55 = .ok (.iload_n 3, 1) := by decide +kernel
theorem dX11_chances_56 : decode cX11_chances 56 = .ok (.iastore, 1) := by decide +kernel
theorem dX11_chances_57 : decode cX11_chances 57 = .ok (.aload_n 0, 1) := by decide +kernel
theorem dX11_chances_58 : decode cX11_chances 58 = .ok (.iconst 0, 1) := by decide +kernel
theorem dX11_chances_59 : decode cX11_chances 59 = .ok (.invokevirtual 140, 3) := by decide +kernel
theorem dX11_chances_62 : decode cX11_chances 62 = .ok (.ireturn, 1) := by decide +kernel
set_option maxHeartbeats 4000000 in
set_option maxRecDepth 100000 in
theorem c_chances (l : Launch) (D : va_G) (ct : Nat → ClassId) (h : Nat) (a1 : Int32) (a2 : Int32) (a3 : Int32) (h_0 : Nat) (h_1 : Nat) (h_2 : Nat) (h_3 : Nat) (h_4 : Nat) (h_5 : Nat) (h_6 : Nat) (h_7 : Nat) (h_8 : Nat) (h_9 : Nat) (h_10 : Nat) (h_11 : Nat) (h_12 : Nat) (h_13 : Int32) (h_14 : Int32) (h_12_0 : Nat) (h_12_1 : Nat) (h_12_2 : Int32) (h_12_3 : Nat) (h_12_4 : Nat) (h_12_5 : Int32) (h_12_6 : Int32) (h_12_7 : Nat) (h_12_8 : Int32) (h_12_9 : Int32) (h_12_10 : Int32) (h_12_11 : Nat) (h_12_12 : Nat) (f : Nat → Int32) (g : Nat → Int32) (sz : Nat)  : Met l yX11_chances (wk yX11_chances cX11_chances 4 (some .int)) { frames := 1, cells := 0, slots := 0, locals := 22 } (va_Pc [.ref h, .int a1, .int a2, .int a3] (Wd D [(h, .inr (11, [.ref h_0, .ref h_1, .ref h_2, .ref h_3, .ref h_4, .ref h_5, .ref h_6, .ref h_7, .ref h_8, .ref h_9, .ref h_10, .ref h_11, .ref h_12, .int h_13, .int h_14])), (h_12, .inr (9, [.ref h_12_0, .ref h_12_1, .int h_12_2, .ref h_12_3, .ref h_12_4, .int h_12_5, .int h_12_6, .ref h_12_7, .int h_12_8, .int h_12_9, .int h_12_10, .ref h_12_11, .ref h_12_12])), (h_12_3, .inl (ct 1, 4, .inl f)), (h_12_4, .inl (ct 1, 4, .inl g))] ct sz)) (va_Qi (fun (r : Int32) (u : Unit) => r = sp_chances a1 a2 a3) (fun _ _ => True) (va_A [(h, .inr (11, [.ref h_0, .ref h_1, .ref h_2, .ref h_3, .ref h_4, .ref h_5, .ref h_6, .ref h_7, .ref h_8, .ref h_9, .ref h_10, .ref h_11, .ref h_12, .int h_13, .int h_14])), (h_12, .inr (9, [.ref h_12_0, .ref h_12_1, .int h_12_2, .ref h_12_3, .ref h_12_4, .int h_12_5, .int h_12_6, .ref h_12_7, .int h_12_8, .int h_12_9, .int h_12_10, .ref h_12_11, .ref h_12_12])), (h_12_3, .inl (ct 1, 4, .inl f)), (h_12_4, .inl (ct 1, 4, .inl g))] sz)) 0 0 (va_A [(h, .inr (11, [.ref h_0, .ref h_1, .ref h_2, .ref h_3, .ref h_4, .ref h_5, .ref h_6, .ref h_7, .ref h_8, .ref h_9, .ref h_10, .ref h_11, .ref h_12, .int h_13, .int h_14])), (h_12, .inr (9, [.ref h_12_0, .ref h_12_1, .int h_12_2, .ref h_12_3, .ref h_12_4, .int h_12_5, .int h_12_6, .ref h_12_7, .int h_12_8, .int h_12_9, .int h_12_10, .ref h_12_11, .ref h_12_12])), (h_12_3, .inl (ct 1, 4, .inl f)), (h_12_4, .inl (ct 1, 4, .inl g))] sz) := by
  refine Met.ofW (cc := cX11_chances) (maxL := 4) (ret := (some .int)) (by decide) rfl ?_
  intro p e s m args below meth c s₁ B hml hv
  obtain ⟨rfl, hsz, hP, hKK, hD0⟩ := hv
  have hK := hKK.1
  have hx := B.exec
  have hb := B.bytes
  have hr := B.returns
  have hg : ∀ w ∈ gl, w.before _ s = true := fun w h => atoms_spec (ws := wk yX11_chances cX11_chances 4 (some .int)) B.pre w (List.mem_cons_of_mem _ h)
  have hown : s.vm.findClass RX11 = some m.cls := findClass_of_methodNamed B.named
  have hlocks := B.notSynchronized
  subst hsz
  have hD := hD0.self (sz := s.heap.size)
  generalize hAe : va_A [(h, .inr (11, [.ref h_0, .ref h_1, .ref h_2, .ref h_3, .ref h_4, .ref h_5, .ref h_6, .ref h_7, .ref h_8, .ref h_9, .ref h_10, .ref h_11, .ref h_12, .int h_13, .int h_14])), (h_12, .inr (9, [.ref h_12_0, .ref h_12_1, .int h_12_2, .ref h_12_3, .ref h_12_4, .int h_12_5, .int h_12_6, .ref h_12_7, .int h_12_8, .int h_12_9, .int h_12_10, .ref h_12_11, .ref h_12_12])), (h_12_3, .inl (ct 1, 4, .inl f)), (h_12_4, .inl (ct 1, 4, .inl g))] s.heap.size = A at hD ⊢
  have hA : ∀ q : Nat, s.heap.size ≤ q → A q := fun q h => by rw [← hAe]; exact Or.inr h
  have hS : va_S A s.heap s.heap [] := va_S.rf
  have hl := lv_entry ([.ref h, .int a1, .int a2, .int a3]) (n := 4) (Nat.le_of_ble_eq_true rfl)
  rw [lg_entry_eq]
  generalize (lg_sl ([.ref h, .int a1, .int a2, .int a3]) ++ List.replicate (4 - (lg_sl ([.ref h, .int a1, .int a2, .int a3])).length) Slot.unset).toArray = ls at hl ⊢
  have hl : lv_has ls 4 [(0, .ref h), (1, .int a1), (2, .int a2), (3, .int a3)] := hl
  refine lv_iload_n hx hb dX11_chances_0 rfl (lv_at hl 1 rfl) ?_
  refine lv_iconst (v := 0) hx hb dX11_chances_1 (by decide) ?_
  refine lv_iconst (v := 3) hx hb dX11_chances_2 (by decide) ?_
  have hPc := hP.sub (ws' := []) [] rfl
  refine z_calli (va_runS (As := [.int a1, .int 0, .int 3]) (rest := []) ⟨hx, hb, hml, hown, hg⟩ (c_within l D ct a1 0 3 ) (va_cwS 3 hg (gd_S wd_959 wd_917 wd_107 wd_918) rfl rfl rfl (by decide +kernel) ⟨Nat.le_of_ble_eq_true rfl, Nat.le_of_ble_eq_true rfl⟩) (Wr_S hPc hKK) rfl rfl hl.1 rfl (lv_room (Nat.le_of_ble_eq_true rfl)) dX11_chances_3 ⟨Nat.le_of_ble_eq_true rfl, Nat.le_of_ble_eq_true rfl⟩) (fun r_1 hw_1 => ?_)
  subst hw_1
  refine lv_if_eq (tgt := 31) hx hb dX11_chances_6 (by decide) (fun c_2 => ?_) (fun c_2 => ?_)
  · refine lv_aload_n hx hb dX11_chances_31 rfl (lv_at hl 0 rfl) ?_
    refine lv_iconst (v := (-1)) hx hb dX11_chances_32 (by decide) ?_
    have hPc := hP.sub (ws' := [(h, .inr (11, [.ref h_0, .ref h_1, .ref h_2, .ref h_3, .ref h_4, .ref h_5, .ref h_6, .ref h_7, .ref h_8, .ref h_9, .ref h_10, .ref h_11, .ref h_12, .int h_13, .int h_14]))]) [0] rfl
    have hDc := hD.sub (ws' := [(h, .inr (11, [.ref h_0, .ref h_1, .ref h_2, .ref h_3, .ref h_4, .ref h_5, .ref h_6, .ref h_7, .ref h_8, .ref h_9, .ref h_10, .ref h_11, .ref h_12, .int h_13, .int h_14]))]) [0] (by decide) rfl
    have hFc := va_free (wc := [(h, .inr (11, [.ref h_0, .ref h_1, .ref h_2, .ref h_3, .ref h_4, .ref h_5, .ref h_6, .ref h_7, .ref h_8, .ref h_9, .ref h_10, .ref h_11, .ref h_12, .int h_13, .int h_14]))]) hD hS hA [0] rfl
    refine va_calli (va_runV (As := [.int (-1)]) (rest := []) ⟨hx, hb, hml, hown, hg⟩ (c_refuse l D ct h (-1) h_0 h_1 h_2 h_3 h_4 h_5 h_6 h_7 h_8 h_9 h_10 h_11 h_12 h_13 h_14 s.heap.size ) (cwV 1 hg (gd_V wd_778 wd_780 wd_3 wd_107 wd_781) rfl rfl rfl (by decide +kernel) ⟨Nat.le_of_ble_eq_true rfl, Nat.le_of_ble_eq_true rfl⟩) (Wd_V hPc hKK hDc (va_recv hK hPc (ci := 11) (q0 := 0) rfl rfl)) rfl rfl hl.1 rfl (lv_room (Nat.le_of_ble_eq_true rfl)) dX11_chances_33 ⟨Nat.le_of_ble_eq_true rfl, Nat.le_of_ble_eq_true rfl⟩) hS (fun q _ h => hFc q h) hFc (fun r_3 u_3 t_3 H1 locs ht_3 hvm_3 hw_3 hB_3 hz_3 hk_3 hS => ?_)
    obtain ⟨hP, hD⟩ := va_join (wr := [(h_12, .inr (9, [.ref h_12_0, .ref h_12_1, .int h_12_2, .ref h_12_3, .ref h_12_4, .int h_12_5, .int h_12_6, .ref h_12_7, .int h_12_8, .int h_12_9, .int h_12_10, .ref h_12_11, .ref h_12_12])), (h_12_3, .inl (ct 1, 4, .inl f)), (h_12_4, .inl (ct 1, 4, .inl g))]) (w1 := []) hP hD [0] [1, 2, 3] rfl rfl (by decide) (by decide) hk_3 hFc (fun k q h => by simp at h) ⟨fun i j p q h => by simp at h, fun k q h => by simp at h⟩
    generalize H1 = H at hP hS ⊢
    have hP : va_P D vwCl [(h_12, .inr (9, [.ref h_12_0, .ref h_12_1, .int h_12_2, .ref h_12_3, .ref h_12_4, .int h_12_5, .int h_12_6, .ref h_12_7, .int h_12_8, .int h_12_9, .int h_12_10, .ref h_12_11, .ref h_12_12])), (h_12_3, .inl (ct 1, 4, .inl f)), (h_12_4, .inl (ct 1, 4, .inl g))] H := hP
    have hD : va_D A [(h_12, .inr (9, [.ref h_12_0, .ref h_12_1, .int h_12_2, .ref h_12_3, .ref h_12_4, .int h_12_5, .int h_12_6, .ref h_12_7, .int h_12_8, .int h_12_9, .int h_12_10, .ref h_12_11, .ref h_12_12])), (h_12_3, .inl (ct 1, 4, .inl f)), (h_12_4, .inl (ct 1, 4, .inl g))] := hD
    subst hw_3
    exact W.iret (v := (-1)) hx hb hr (fun t ht hW => ⟨⟨(-1), (), rfl, (by simp [sp_chances, c_2]), trivial⟩, hS.F ht⟩) hS.2.2 dX11_chances_36
  · refine lv_iload_n hx hb dX11_chances_9 rfl (lv_at hl 2 rfl) ?_
    refine lv_iconst (v := 0) hx hb dX11_chances_10 (by decide) ?_
    refine lv_sipush (v := 1000) hx hb dX11_chances_11 (by decide) ?_
    have hPc := hP.sub (ws' := []) [] rfl
    refine z_calli (va_runS (As := [.int a2, .int 0, .int 1000]) (rest := []) ⟨hx, hb, hml, hown, hg⟩ (c_within l D ct a2 0 1000 ) (va_cwS 3 hg (gd_S wd_959 wd_917 wd_107 wd_918) rfl rfl rfl (by decide +kernel) ⟨Nat.le_of_ble_eq_true rfl, Nat.le_of_ble_eq_true rfl⟩) (Wr_S hPc hKK) rfl rfl hl.1 rfl (lv_room (Nat.le_of_ble_eq_true rfl)) dX11_chances_14 ⟨Nat.le_of_ble_eq_true rfl, Nat.le_of_ble_eq_true rfl⟩) (fun r_4 hw_4 => ?_)
    subst hw_4
    refine lv_if_eq (tgt := 31) hx hb dX11_chances_17 (by decide) (fun c_5 => ?_) (fun c_5 => ?_)
    · refine lv_aload_n hx hb dX11_chances_31 rfl (lv_at hl 0 rfl) ?_
      refine lv_iconst (v := (-1)) hx hb dX11_chances_32 (by decide) ?_
      have hPc := hP.sub (ws' := [(h, .inr (11, [.ref h_0, .ref h_1, .ref h_2, .ref h_3, .ref h_4, .ref h_5, .ref h_6, .ref h_7, .ref h_8, .ref h_9, .ref h_10, .ref h_11, .ref h_12, .int h_13, .int h_14]))]) [0] rfl
      have hDc := hD.sub (ws' := [(h, .inr (11, [.ref h_0, .ref h_1, .ref h_2, .ref h_3, .ref h_4, .ref h_5, .ref h_6, .ref h_7, .ref h_8, .ref h_9, .ref h_10, .ref h_11, .ref h_12, .int h_13, .int h_14]))]) [0] (by decide) rfl
      have hFc := va_free (wc := [(h, .inr (11, [.ref h_0, .ref h_1, .ref h_2, .ref h_3, .ref h_4, .ref h_5, .ref h_6, .ref h_7, .ref h_8, .ref h_9, .ref h_10, .ref h_11, .ref h_12, .int h_13, .int h_14]))]) hD hS hA [0] rfl
      refine va_calli (va_runV (As := [.int (-1)]) (rest := []) ⟨hx, hb, hml, hown, hg⟩ (c_refuse l D ct h (-1) h_0 h_1 h_2 h_3 h_4 h_5 h_6 h_7 h_8 h_9 h_10 h_11 h_12 h_13 h_14 s.heap.size ) (cwV 1 hg (gd_V wd_778 wd_780 wd_3 wd_107 wd_781) rfl rfl rfl (by decide +kernel) ⟨Nat.le_of_ble_eq_true rfl, Nat.le_of_ble_eq_true rfl⟩) (Wd_V hPc hKK hDc (va_recv hK hPc (ci := 11) (q0 := 0) rfl rfl)) rfl rfl hl.1 rfl (lv_room (Nat.le_of_ble_eq_true rfl)) dX11_chances_33 ⟨Nat.le_of_ble_eq_true rfl, Nat.le_of_ble_eq_true rfl⟩) hS (fun q _ h => hFc q h) hFc (fun r_6 u_6 t_6 H1 locs ht_6 hvm_6 hw_6 hB_6 hz_6 hk_6 hS => ?_)
      obtain ⟨hP, hD⟩ := va_join (wr := [(h_12, .inr (9, [.ref h_12_0, .ref h_12_1, .int h_12_2, .ref h_12_3, .ref h_12_4, .int h_12_5, .int h_12_6, .ref h_12_7, .int h_12_8, .int h_12_9, .int h_12_10, .ref h_12_11, .ref h_12_12])), (h_12_3, .inl (ct 1, 4, .inl f)), (h_12_4, .inl (ct 1, 4, .inl g))]) (w1 := []) hP hD [0] [1, 2, 3] rfl rfl (by decide) (by decide) hk_6 hFc (fun k q h => by simp at h) ⟨fun i j p q h => by simp at h, fun k q h => by simp at h⟩
      generalize H1 = H at hP hS ⊢
      have hP : va_P D vwCl [(h_12, .inr (9, [.ref h_12_0, .ref h_12_1, .int h_12_2, .ref h_12_3, .ref h_12_4, .int h_12_5, .int h_12_6, .ref h_12_7, .int h_12_8, .int h_12_9, .int h_12_10, .ref h_12_11, .ref h_12_12])), (h_12_3, .inl (ct 1, 4, .inl f)), (h_12_4, .inl (ct 1, 4, .inl g))] H := hP
      have hD : va_D A [(h_12, .inr (9, [.ref h_12_0, .ref h_12_1, .int h_12_2, .ref h_12_3, .ref h_12_4, .int h_12_5, .int h_12_6, .ref h_12_7, .int h_12_8, .int h_12_9, .int h_12_10, .ref h_12_11, .ref h_12_12])), (h_12_3, .inl (ct 1, 4, .inl f)), (h_12_4, .inl (ct 1, 4, .inl g))] := hD
      subst hw_6
      exact W.iret (v := (-1)) hx hb hr (fun t ht hW => ⟨⟨(-1), (), rfl, (by simp [sp_chances, c_2, c_5]), trivial⟩, hS.F ht⟩) hS.2.2 dX11_chances_36
    · refine lv_iload_n hx hb dX11_chances_20 rfl (lv_at hl 3 rfl) ?_
      refine lv_iconst (v := 0) hx hb dX11_chances_21 (by decide) ?_
      refine lv_sipush (v := 1000) hx hb dX11_chances_22 (by decide) ?_
      have hPc := hP.sub (ws' := []) [] rfl
      refine z_calli (va_runS (As := [.int a3, .int 0, .int 1000]) (rest := []) ⟨hx, hb, hml, hown, hg⟩ (c_within l D ct a3 0 1000 ) (va_cwS 3 hg (gd_S wd_959 wd_917 wd_107 wd_918) rfl rfl rfl (by decide +kernel) ⟨Nat.le_of_ble_eq_true rfl, Nat.le_of_ble_eq_true rfl⟩) (Wr_S hPc hKK) rfl rfl hl.1 rfl (lv_room (Nat.le_of_ble_eq_true rfl)) dX11_chances_25 ⟨Nat.le_of_ble_eq_true rfl, Nat.le_of_ble_eq_true rfl⟩) (fun r_7 hw_7 => ?_)
      subst hw_7
      refine lv_if_ne (tgt := 37) hx hb dX11_chances_28 (by decide) (fun c_8 => ?_) (fun c_8 => ?_)
      · refine lv_aload_n hx hb dX11_chances_37 rfl (lv_at hl 0 rfl) ?_
        refine va_get (D := D) (ci := 11) (v := .ref h_12) (C := RX11) (T := TX11) (N := 15) hx hb hg inX11 hown hK hP 0 rfl rfl 12 (by decide) (hg _ wd_695) (fun _ h9 => h9) rfl dX11_chances_38 ?_
        refine va_get (D := D) (ci := 9) (v := .ref h_12_3) (C := RX9) (T := TX9) (N := 13) hx hb hg inX9 hown hK hP 1 rfl rfl 3 (by decide) (hg _ wd_639) (fun _ h9 => h9) rfl dX11_chances_41 ?_
        refine lv_iload_n hx hb dX11_chances_44 rfl (lv_at hl 1 rfl) ?_
        refine lv_iload_n hx hb dX11_chances_45 rfl (lv_at hl 2 rfl) ?_
        refine va_iast hx hb hK hP hD hS 2 1 rfl rfl (bw_in (by assumption) (by decide)) dX11_chances_46 (fun H locs hP hD hS => ?_)
        obtain ⟨f_9, ef_9⟩ : ∃ z : Nat → Int32, z = upd f a1.toNatClampNeg a2 := ⟨_, rfl⟩
        have hP : va_P D vwCl [(h, .inr (11, [.ref h_0, .ref h_1, .ref h_2, .ref h_3, .ref h_4, .ref h_5, .ref h_6, .ref h_7, .ref h_8, .ref h_9, .ref h_10, .ref h_11, .ref h_12, .int h_13, .int h_14])), (h_12, .inr (9, [.ref h_12_0, .ref h_12_1, .int h_12_2, .ref h_12_3, .ref h_12_4, .int h_12_5, .int h_12_6, .ref h_12_7, .int h_12_8, .int h_12_9, .int h_12_10, .ref h_12_11, .ref h_12_12])), (h_12_3, .inl (ct 1, 4, .inl f_9)), (h_12_4, .inl (ct 1, 4, .inl g))] H := by rw [ef_9]; exact hP
        have hD : va_D A [(h, .inr (11, [.ref h_0, .ref h_1, .ref h_2, .ref h_3, .ref h_4, .ref h_5, .ref h_6, .ref h_7, .ref h_8, .ref h_9, .ref h_10, .ref h_11, .ref h_12, .int h_13, .int h_14])), (h_12, .inr (9, [.ref h_12_0, .ref h_12_1, .int h_12_2, .ref h_12_3, .ref h_12_4, .int h_12_5, .int h_12_6, .ref h_12_7, .int h_12_8, .int h_12_9, .int h_12_10, .ref h_12_11, .ref h_12_12])), (h_12_3, .inl (ct 1, 4, .inl f_9)), (h_12_4, .inl (ct 1, 4, .inl g))] := by rw [ef_9]; exact hD
        refine lv_aload_n hx hb dX11_chances_47 rfl (lv_at hl 0 rfl) ?_
        refine va_get (D := D) (ci := 11) (v := .ref h_12) (C := RX11) (T := TX11) (N := 15) hx hb hg inX11 hown hK hP 0 rfl rfl 12 (by decide) (hg _ wd_695) (fun _ h9 => h9) rfl dX11_chances_48 ?_
        refine va_get (D := D) (ci := 9) (v := .ref h_12_4) (C := RX9) (T := TX9) (N := 13) hx hb hg inX9 hown hK hP 1 rfl rfl 4 (by decide) (hg _ wd_641) (fun _ h9 => h9) rfl dX11_chances_51 ?_
        refine lv_iload_n hx hb dX11_chances_54 rfl (lv_at hl 1 rfl) ?_
        refine lv_iload_n hx hb dX11_chances_55 rfl (lv_at hl 3 rfl) ?_
        refine va_iast hx hb hK hP hD hS 3 1 rfl rfl (bw_in (by assumption) (by decide)) dX11_chances_56 (fun H locs hP hD hS => ?_)
        obtain ⟨f_10, ef_10⟩ : ∃ z : Nat → Int32, z = upd g a1.toNatClampNeg a3 := ⟨_, rfl⟩
        have hP : va_P D vwCl [(h, .inr (11, [.ref h_0, .ref h_1, .ref h_2, .ref h_3, .ref h_4, .ref h_5, .ref h_6, .ref h_7, .ref h_8, .ref h_9, .ref h_10, .ref h_11, .ref h_12, .int h_13, .int h_14])), (h_12, .inr (9, [.ref h_12_0, .ref h_12_1, .int h_12_2, .ref h_12_3, .ref h_12_4, .int h_12_5, .int h_12_6, .ref h_12_7, .int h_12_8, .int h_12_9, .int h_12_10, .ref h_12_11, .ref h_12_12])), (h_12_3, .inl (ct 1, 4, .inl f_9)), (h_12_4, .inl (ct 1, 4, .inl f_10))] H := by rw [ef_10]; exact hP
        have hD : va_D A [(h, .inr (11, [.ref h_0, .ref h_1, .ref h_2, .ref h_3, .ref h_4, .ref h_5, .ref h_6, .ref h_7, .ref h_8, .ref h_9, .ref h_10, .ref h_11, .ref h_12, .int h_13, .int h_14])), (h_12, .inr (9, [.ref h_12_0, .ref h_12_1, .int h_12_2, .ref h_12_3, .ref h_12_4, .int h_12_5, .int h_12_6, .ref h_12_7, .int h_12_8, .int h_12_9, .int h_12_10, .ref h_12_11, .ref h_12_12])), (h_12_3, .inl (ct 1, 4, .inl f_9)), (h_12_4, .inl (ct 1, 4, .inl f_10))] := by rw [ef_10]; exact hD
        refine lv_aload_n hx hb dX11_chances_57 rfl (lv_at hl 0 rfl) ?_
        refine lv_iconst (v := 0) hx hb dX11_chances_58 (by decide) ?_
        have hPc := hP.sub (ws' := [(h, .inr (11, [.ref h_0, .ref h_1, .ref h_2, .ref h_3, .ref h_4, .ref h_5, .ref h_6, .ref h_7, .ref h_8, .ref h_9, .ref h_10, .ref h_11, .ref h_12, .int h_13, .int h_14]))]) [0] rfl
        have hDc := hD.sub (ws' := [(h, .inr (11, [.ref h_0, .ref h_1, .ref h_2, .ref h_3, .ref h_4, .ref h_5, .ref h_6, .ref h_7, .ref h_8, .ref h_9, .ref h_10, .ref h_11, .ref h_12, .int h_13, .int h_14]))]) [0] (by decide) rfl
        have hFc := va_free (wc := [(h, .inr (11, [.ref h_0, .ref h_1, .ref h_2, .ref h_3, .ref h_4, .ref h_5, .ref h_6, .ref h_7, .ref h_8, .ref h_9, .ref h_10, .ref h_11, .ref h_12, .int h_13, .int h_14]))]) hD hS hA [0] rfl
        refine va_calli (va_runV (As := [.int 0]) (rest := []) ⟨hx, hb, hml, hown, hg⟩ (c_accept l D ct h 0 h_0 h_1 h_2 h_3 h_4 h_5 h_6 h_7 h_8 h_9 h_10 h_11 h_12 h_13 h_14 H.size ) (cwV 1 hg (gd_V wd_805 wd_807 wd_5 wd_107 wd_808) rfl rfl rfl (by decide +kernel) ⟨Nat.le_of_ble_eq_true rfl, Nat.le_of_ble_eq_true rfl⟩) (Wd_V hPc hKK hDc (va_recv hK hPc (ci := 11) (q0 := 0) rfl rfl)) rfl rfl hl.1 rfl (lv_room (Nat.le_of_ble_eq_true rfl)) dX11_chances_59 ⟨Nat.le_of_ble_eq_true rfl, Nat.le_of_ble_eq_true rfl⟩) hS (fun q _ h => hFc q h) hFc (fun r_11 u_11 t_11 H1 locs ht_11 hvm_11 hw_11 hB_11 hz_11 hk_11 hS => ?_)
        obtain ⟨hP, hD⟩ := va_join (wr := [(h_12, .inr (9, [.ref h_12_0, .ref h_12_1, .int h_12_2, .ref h_12_3, .ref h_12_4, .int h_12_5, .int h_12_6, .ref h_12_7, .int h_12_8, .int h_12_9, .int h_12_10, .ref h_12_11, .ref h_12_12])), (h_12_3, .inl (ct 1, 4, .inl f_9)), (h_12_4, .inl (ct 1, 4, .inl f_10))]) (w1 := []) hP hD [0] [1, 2, 3] rfl rfl (by decide) (by decide) hk_11 hFc (fun k q h => by simp at h) ⟨fun i j p q h => by simp at h, fun k q h => by simp at h⟩
        generalize H1 = H at hP hS ⊢
        have hP : va_P D vwCl [(h_12, .inr (9, [.ref h_12_0, .ref h_12_1, .int h_12_2, .ref h_12_3, .ref h_12_4, .int h_12_5, .int h_12_6, .ref h_12_7, .int h_12_8, .int h_12_9, .int h_12_10, .ref h_12_11, .ref h_12_12])), (h_12_3, .inl (ct 1, 4, .inl f_9)), (h_12_4, .inl (ct 1, 4, .inl f_10))] H := hP
        have hD : va_D A [(h_12, .inr (9, [.ref h_12_0, .ref h_12_1, .int h_12_2, .ref h_12_3, .ref h_12_4, .int h_12_5, .int h_12_6, .ref h_12_7, .int h_12_8, .int h_12_9, .int h_12_10, .ref h_12_11, .ref h_12_12])), (h_12_3, .inl (ct 1, 4, .inl f_9)), (h_12_4, .inl (ct 1, 4, .inl f_10))] := hD
        subst hw_11
        exact W.iret (v := 0) hx hb hr (fun t ht hW => ⟨⟨0, (), rfl, (by simp [sp_chances, c_2, c_5, c_8]), trivial⟩, hS.F ht⟩) hS.2.2 dX11_chances_62
      · refine lv_aload_n hx hb dX11_chances_31 rfl (lv_at hl 0 rfl) ?_
        refine lv_iconst (v := (-1)) hx hb dX11_chances_32 (by decide) ?_
        have hPc := hP.sub (ws' := [(h, .inr (11, [.ref h_0, .ref h_1, .ref h_2, .ref h_3, .ref h_4, .ref h_5, .ref h_6, .ref h_7, .ref h_8, .ref h_9, .ref h_10, .ref h_11, .ref h_12, .int h_13, .int h_14]))]) [0] rfl
        have hDc := hD.sub (ws' := [(h, .inr (11, [.ref h_0, .ref h_1, .ref h_2, .ref h_3, .ref h_4, .ref h_5, .ref h_6, .ref h_7, .ref h_8, .ref h_9, .ref h_10, .ref h_11, .ref h_12, .int h_13, .int h_14]))]) [0] (by decide) rfl
        have hFc := va_free (wc := [(h, .inr (11, [.ref h_0, .ref h_1, .ref h_2, .ref h_3, .ref h_4, .ref h_5, .ref h_6, .ref h_7, .ref h_8, .ref h_9, .ref h_10, .ref h_11, .ref h_12, .int h_13, .int h_14]))]) hD hS hA [0] rfl
        refine va_calli (va_runV (As := [.int (-1)]) (rest := []) ⟨hx, hb, hml, hown, hg⟩ (c_refuse l D ct h (-1) h_0 h_1 h_2 h_3 h_4 h_5 h_6 h_7 h_8 h_9 h_10 h_11 h_12 h_13 h_14 s.heap.size ) (cwV 1 hg (gd_V wd_778 wd_780 wd_3 wd_107 wd_781) rfl rfl rfl (by decide +kernel) ⟨Nat.le_of_ble_eq_true rfl, Nat.le_of_ble_eq_true rfl⟩) (Wd_V hPc hKK hDc (va_recv hK hPc (ci := 11) (q0 := 0) rfl rfl)) rfl rfl hl.1 rfl (lv_room (Nat.le_of_ble_eq_true rfl)) dX11_chances_33 ⟨Nat.le_of_ble_eq_true rfl, Nat.le_of_ble_eq_true rfl⟩) hS (fun q _ h => hFc q h) hFc (fun r_12 u_12 t_12 H1 locs ht_12 hvm_12 hw_12 hB_12 hz_12 hk_12 hS => ?_)
        obtain ⟨hP, hD⟩ := va_join (wr := [(h_12, .inr (9, [.ref h_12_0, .ref h_12_1, .int h_12_2, .ref h_12_3, .ref h_12_4, .int h_12_5, .int h_12_6, .ref h_12_7, .int h_12_8, .int h_12_9, .int h_12_10, .ref h_12_11, .ref h_12_12])), (h_12_3, .inl (ct 1, 4, .inl f)), (h_12_4, .inl (ct 1, 4, .inl g))]) (w1 := []) hP hD [0] [1, 2, 3] rfl rfl (by decide) (by decide) hk_12 hFc (fun k q h => by simp at h) ⟨fun i j p q h => by simp at h, fun k q h => by simp at h⟩
        generalize H1 = H at hP hS ⊢
        have hP : va_P D vwCl [(h_12, .inr (9, [.ref h_12_0, .ref h_12_1, .int h_12_2, .ref h_12_3, .ref h_12_4, .int h_12_5, .int h_12_6, .ref h_12_7, .int h_12_8, .int h_12_9, .int h_12_10, .ref h_12_11, .ref h_12_12])), (h_12_3, .inl (ct 1, 4, .inl f)), (h_12_4, .inl (ct 1, 4, .inl g))] H := hP
        have hD : va_D A [(h_12, .inr (9, [.ref h_12_0, .ref h_12_1, .int h_12_2, .ref h_12_3, .ref h_12_4, .int h_12_5, .int h_12_6, .ref h_12_7, .int h_12_8, .int h_12_9, .int h_12_10, .ref h_12_11, .ref h_12_12])), (h_12_3, .inl (ct 1, 4, .inl f)), (h_12_4, .inl (ct 1, 4, .inl g))] := hD
        subst hw_12
        exact W.iret (v := (-1)) hx hb hr (fun t ht hW => ⟨⟨(-1), (), rfl, (by simp [sp_chances, c_2, c_5, c_8]), trivial⟩, hS.F ht⟩) hS.2.2 dX11_chances_36
def sp_field (a1 : Int32) (a2 : Int32) (a3 : Int32) : Int32 := if bw a1 0 4 = 0 then (-1) else if bw a2 1 99 = 0 then (-1) else if bw a3 1 99 = 0 then (-1) else 0
theorem dX8_forget_0 : decode cX8_forget 0 = .ok (.aload_n 0, 1) := by decide +kernel
theorem dX8_forget_1 : decode cX8_forget 1 = .ok (.iconst 0, 1) := by decide +kernel
theorem dX8_forget_2 : decode cX8_forget 2 = .ok (.putfield 53, 3) := by decide +kernel
theorem wd_438 : (Cond.fieldLink "VoteRoll$Persons" 53 "VoteRoll$Persons" "pairsStand" "Z") ∈ gl := gl_at 438 (by decide +kernel) (by decide +kernel)
theorem dX8_forget_5 : decode cX8_forget 5 = .ok (.aload_n 0, 1) := by decide +kernel
theorem dX8_forget_6 : decode cX8_forget 6 = .ok (.iconst (-1), 1) := by decide +kernel
theorem dX8_forget_7 : decode cX8_forget 7 = .ok (.putfield 49, 3) := by decide +kernel
theorem wd_439 : (Cond.fieldLink "VoteRoll$Persons" 49 "VoteRoll$Persons" "dividedOn" "I") ∈ gl := gl_at 439 (by decide +kernel) (by decide +kernel)
theorem dX8_forget_10 : decode cX8_forget 10 = .ok (.return_, 1) := by decide +kernel
set_option maxHeartbeats 4000000 in
set_option maxRecDepth 100000 in
theorem c_forget (l : Launch) (D : va_G) (ct : Nat → ClassId) (q : Nat) (q_0 : Nat) (q_1 : Nat) (q_2 : Nat) (q_3 : Nat) (q_4 : Nat) (q_5 : Nat) (q_6 : Nat) (q_7 : Nat) (q_8 : Int32) (q_9 : Int32) (q_10 : Int32) (q_11 : Int32) (q_12 : Nat) (q_13 : Int32) (q_14 : Nat) (q_15 : Int32) (q_16 : Int32) (sz : Nat)  : Met l yX8_forget (wk yX8_forget cX8_forget 1 none) { frames := 0, cells := 0, slots := 0, locals := 0 } (va_Pc [.ref q] (Wd D [(q, .inr (8, [.ref q_0, .ref q_1, .ref q_2, .ref q_3, .ref q_4, .ref q_5, .ref q_6, .ref q_7, .int q_8, .int q_9, .int q_10, .int q_11, .ref q_12, .int q_13, .ref q_14, .int q_15, .int q_16]))] ct sz)) (va_Qv (fun (u : Unit) => True) (fun _ _ => True) (va_A [(q, .inr (8, [.ref q_0, .ref q_1, .ref q_2, .ref q_3, .ref q_4, .ref q_5, .ref q_6, .ref q_7, .int q_8, .int q_9, .int q_10, .int q_11, .ref q_12, .int q_13, .ref q_14, .int q_15, .int q_16]))] sz)) 0 0 (va_A [(q, .inr (8, [.ref q_0, .ref q_1, .ref q_2, .ref q_3, .ref q_4, .ref q_5, .ref q_6, .ref q_7, .int q_8, .int q_9, .int q_10, .int q_11, .ref q_12, .int q_13, .ref q_14, .int q_15, .int q_16]))] sz) := by
  refine Met.ofW (cc := cX8_forget) (maxL := 1) (ret := none) (by decide) rfl ?_
  intro p e s m args below meth c s₁ B hml hv
  obtain ⟨rfl, hsz, hP, hKK, hD0⟩ := hv
  have hK := hKK.1
  have hx := B.exec
  have hb := B.bytes
  have hr := B.returns
  have hg : ∀ w ∈ gl, w.before _ s = true := fun w h => atoms_spec (ws := wk yX8_forget cX8_forget 1 none) B.pre w (List.mem_cons_of_mem _ h)
  have hown : s.vm.findClass RX8 = some m.cls := findClass_of_methodNamed B.named
  have hlocks := B.notSynchronized
  subst hsz
  have hD := hD0.self (sz := s.heap.size)
  generalize hAe : va_A [(q, .inr (8, [.ref q_0, .ref q_1, .ref q_2, .ref q_3, .ref q_4, .ref q_5, .ref q_6, .ref q_7, .int q_8, .int q_9, .int q_10, .int q_11, .ref q_12, .int q_13, .ref q_14, .int q_15, .int q_16]))] s.heap.size = A at hD ⊢
  have hA : ∀ q : Nat, s.heap.size ≤ q → A q := fun q h => by rw [← hAe]; exact Or.inr h
  have hS : va_S A s.heap s.heap [] := va_S.rf
  have hl := lv_entry ([.ref q]) (n := 1) (Nat.le_of_ble_eq_true rfl)
  rw [lg_entry_eq]
  generalize (lg_sl ([.ref q]) ++ List.replicate (1 - (lg_sl ([.ref q])).length) Slot.unset).toArray = ls at hl ⊢
  have hl : lv_has ls 1 [(0, .ref q)] := hl
  refine lv_aload_n hx hb dX8_forget_0 rfl (lv_at hl 0 rfl) ?_
  refine lv_iconst (v := 0) hx hb dX8_forget_1 (by decide) ?_
  refine va_put (D := D) (ci := 8) (v := .int 0) (ty := .boolean) (C := RX8) (T := TX8) (N := 17) hx hb hg inX8 tyX8 tyX8_ok nmX8 hown hK hP hD hS 0 rfl rfl 10 (by decide) (hg _ wd_438) (fun _ h9 => h9) rfl (by decide +kernel) rfl rfl (Nat.le_of_ble_eq_true rfl) dX8_forget_2 (fun H locs hP hD hS => ?_)
  have hP : va_P D vwCl [(q, .inr (8, [.ref q_0, .ref q_1, .ref q_2, .ref q_3, .ref q_4, .ref q_5, .ref q_6, .ref q_7, .int q_8, .int q_9, .int 0, .int q_11, .ref q_12, .int q_13, .ref q_14, .int q_15, .int q_16]))] H := hP
  have hD : va_D A [(q, .inr (8, [.ref q_0, .ref q_1, .ref q_2, .ref q_3, .ref q_4, .ref q_5, .ref q_6, .ref q_7, .int q_8, .int q_9, .int 0, .int q_11, .ref q_12, .int q_13, .ref q_14, .int q_15, .int q_16]))] := hD
  refine lv_aload_n hx hb dX8_forget_5 rfl (lv_at hl 0 rfl) ?_
  refine lv_iconst (v := (-1)) hx hb dX8_forget_6 (by decide) ?_
  refine va_put (D := D) (ci := 8) (v := .int (-1)) (ty := .int) (C := RX8) (T := TX8) (N := 17) hx hb hg inX8 tyX8 tyX8_ok nmX8 hown hK hP hD hS 0 rfl rfl 11 (by decide) (hg _ wd_439) (fun _ h9 => h9) rfl (by decide +kernel) rfl rfl (Nat.le_of_ble_eq_true rfl) dX8_forget_7 (fun H locs hP hD hS => ?_)
  have hP : va_P D vwCl [(q, .inr (8, [.ref q_0, .ref q_1, .ref q_2, .ref q_3, .ref q_4, .ref q_5, .ref q_6, .ref q_7, .int q_8, .int q_9, .int 0, .int (-1), .ref q_12, .int q_13, .ref q_14, .int q_15, .int q_16]))] H := hP
  have hD : va_D A [(q, .inr (8, [.ref q_0, .ref q_1, .ref q_2, .ref q_3, .ref q_4, .ref q_5, .ref q_6, .ref q_7, .int q_8, .int q_9, .int 0, .int (-1), .ref q_12, .int q_13, .ref q_14, .int q_15, .int q_16]))] := hD
  exact W.vret hx hb hr (fun t ht hW => ⟨⟨(), rfl, trivial, trivial⟩, hS.F ht⟩) hS.2.2 dX8_forget_10
theorem dX11_field_0 : decode cX11_field 0 = .ok (.iload_n 1, 1) := by decide +kernel
theorem dX11_field_1 : decode cX11_field 1 = .ok (.iconst 0, 1) := by decide +kernel
theorem dX11_field_2 : decode cX11_field 2 = .ok (.iconst 4, 1) := by decide +kernel
theorem dX11_field_3 : decode cX11_field 3 = .ok (.invokestatic 150, 3) := by decide +kernel
theorem dX11_field_6 : decode cX11_field 6 = .ok (.ifCond .eq 23, 3) := by decide +kernel
theorem dX11_field_29 : decode cX11_field 29 = .ok (.aload_n 0, 1) := by decide +kernel
theorem dX11_field_30 : decode cX11_field 30 = .ok (.iconst (-1), 1) := by decide +kernel
theorem dX11_field_31 : decode cX11_field 31 = .ok (.invokevirtual 118, 3) := by decide +kernel
theorem dX11_field_34 : decode cX11_field 34 = .ok (.ireturn, 1) := by decide +kernel
theorem dX11_field_9 : decode cX11_field 9 = .ok (.iload_n 2, 1) := by decide +kernel
theorem dX11_field_10 : decode cX11_field 10 = .ok (.iconst 1, 1) := by decide +kernel
theorem dX11_field_11 : decode cX11_field 11 = .ok (.bipush 99, 2) := by decide +kernel
theorem dX11_field_13 : decode cX11_field 13 = .ok (.invokestatic 150, 3) := by decide +kernel
theorem dX11_field_16 : decode cX11_field 16 = .ok (.ifCond .eq 13, 3) := by decide +kernel
theorem dX11_field_19 : decode cX11_field 19 = .ok (.iload_n 3, 1) := by decide +kernel
theorem dX11_field_20 : decode cX11_field 20 = .ok (.iconst 1, 1) := by decide +kernel
theorem dX11_field_21 : decode cX11_field 21 = .ok (.bipush 99, 2) := by decide +kernel
theorem dX11_field_23 : decode cX11_field 23 = .ok (.invokestatic 150, 3) := by decide +kernel
theorem dX11_field_26 : decode cX11_field 26 = .ok (.ifCond .ne 9, 3) := by decide +kernel
theorem dX11_field_35 : decode cX11_field 35 = .ok (.aload_n 0, 1) := by decide +kernel
theorem dX11_field_36 : decode cX11_field 36 = .ok (.getfield 55, 3) := by decide +kernel
theorem wd_690 : (Cond.fieldLink "VoteRoll" 55 "VoteRoll" "chancesOfPairs" "LVoteRoll$Odds;") ∈ gl := gl_at 690 (by decide +kernel) (by decide +kernel)
theorem dX11_field_39 : decode cX11_field 39 = .ok (.getfield 204, 3) := by decide +kernel
theorem wd_368 : (Cond.fieldLink "VoteRoll" 204 "VoteRoll$Odds" "sameAgree" "[I") ∈ gl := gl_at 368 (by decide +kernel) (by decide +kernel)
theorem dX11_field_42 : decode cX11_field 42 = .ok (.iload_n 1, 1) := by decide +kernel
theorem dX11_field_43 : decode cX11_field 43 = .ok (.iload_n 2, 1) := by decide +kernel
theorem dX11_field_44 : decode cX11_field 44 = .ok (.iastore, 1) := by decide +kernel
theorem dX11_field_45 : decode cX11_field 45 = .ok (.aload_n 0, 1) := by decide +kernel
theorem dX11_field_46 : decode cX11_field 46 = .ok (.getfield 55, 3) := by decide +kernel
theorem dX11_field_49 : decode cX11_field 49 = .ok (.getfield 207, 3) := by decide +kernel
theorem wd_370 : (Cond.fieldLink "VoteRoll" 207 "VoteRoll$Odds" "otherAgree" "[I") ∈ gl := gl_at 370 (by decide +kernel) (by decide +kernel)
theorem dX11_field_52 : decode cX11_field 52 = .ok (.iload_n 1, 1) := by decide +kernel
theorem dX11_field_53 : decode cX11_field 53 = .ok (.iload_n 3, 1) := by decide +kernel
theorem dX11_field_54 : decode cX11_field 54 = .ok (.iastore, 1) := by decide +kernel
theorem dX11_field_55 : decode cX11_field 55 = .ok (.aload_n 0, 1) := by decide +kernel
theorem dX11_field_56 : decode cX11_field 56 = .ok (.getfield 64, 3) := by decide +kernel
theorem wd_691 : (Cond.fieldLink "VoteRoll" 64 "VoteRoll" "persons" "LVoteRoll$Persons;") ∈ gl := gl_at 691 (by decide +kernel) (by decide +kernel)
theorem dX11_field_59 : decode cX11_field 59 = .ok (.invokevirtual 134, 3) := by decide +kernel
theorem wd_804 : (Cond.code yX8_forget cX8_forget 1 none) ∈ gl := gl_at 804 (by decide +kernel) (by decide +kernel)
theorem wd_801 : (Cond.methodLink "VoteRoll" 134 yX8_forget) ∈ gl := gl_at 801 (by decide +kernel) (by decide +kernel)
theorem wd_114 : (Cond.initialized "VoteRoll$Persons") ∈ gl := gl_at 114 (by decide +kernel) (by decide +kernel)
theorem wd_802 : (Cond.instanceMethod yX8_forget) ∈ gl := gl_at 802 (by decide +kernel) (by decide +kernel)
theorem wd_803 : (Cond.selects "VoteRoll$Persons" yX8_forget yX8_forget) ∈ gl := gl_at 803 (by decide +kernel) (by decide +kernel)
theorem dX11_field_62 : decode cX11_field 62 = .ok (.aload_n 0, 1) := by decide +kernel
theorem dX11_field_63 : decode cX11_field 63 = .ok (.iconst 0, 1) := by decide +kernel
theorem dX11_field_64 : decode cX11_field 64 = .ok (.invokevirtual 140, 3) := by decide +kernel
theorem dX11_field_67 : decode cX11_field 67 = .ok (.ireturn, 1) := by decide +kernel
set_option maxHeartbeats 4000000 in
set_option maxRecDepth 100000 in
theorem c_field (l : Launch) (D : va_G) (ct : Nat → ClassId) (h : Nat) (a1 : Int32) (a2 : Int32) (a3 : Int32) (h_0 : Nat) (h_1 : Nat) (h_2 : Nat) (h_3 : Nat) (h_4 : Nat) (h_5 : Nat) (h_6 : Nat) (h_7 : Nat) (h_8 : Nat) (h_9 : Nat) (h_10 : Nat) (h_11 : Nat) (h_12 : Nat) (h_13 : Int32) (h_14 : Int32) (h_7_0 : Nat) (h_7_1 : Nat) (h_7_2 : Nat) (h_7_3 : Int32) (h_7_4 : Int32) (h_7_5 : Int32) (h_7_6 : Int32) (h_7_7 : Int32) (h_7_8 : Int64) (h_7_9 : Int64) (h_7_10 : Int32) (h_7_11 : Nat) (h_7_12 : Nat) (h_7_13 : Nat) (f : Nat → Int32) (g : Nat → Int32) (h_8_0 : Nat) (h_8_1 : Nat) (h_8_2 : Nat) (h_8_3 : Nat) (h_8_4 : Nat) (h_8_5 : Nat) (h_8_6 : Nat) (h_8_7 : Nat) (h_8_8 : Int32) (h_8_9 : Int32) (h_8_10 : Int32) (h_8_11 : Int32) (h_8_12 : Nat) (h_8_13 : Int32) (h_8_14 : Nat) (h_8_15 : Int32) (h_8_16 : Int32) (sz : Nat)  : Met l yX11_field (wk yX11_field cX11_field 4 (some .int)) { frames := 1, cells := 0, slots := 0, locals := 22 } (va_Pc [.ref h, .int a1, .int a2, .int a3] (Wd D [(h, .inr (11, [.ref h_0, .ref h_1, .ref h_2, .ref h_3, .ref h_4, .ref h_5, .ref h_6, .ref h_7, .ref h_8, .ref h_9, .ref h_10, .ref h_11, .ref h_12, .int h_13, .int h_14])), (h_7, .inr (7, [.ref h_7_0, .ref h_7_1, .ref h_7_2, .int h_7_3, .int h_7_4, .int h_7_5, .int h_7_6, .int h_7_7, .long h_7_8, .long h_7_9, .int h_7_10, .ref h_7_11, .ref h_7_12, .ref h_7_13])), (h_7_1, .inl (ct 1, 5, .inl f)), (h_7_2, .inl (ct 1, 5, .inl g)), (h_8, .inr (8, [.ref h_8_0, .ref h_8_1, .ref h_8_2, .ref h_8_3, .ref h_8_4, .ref h_8_5, .ref h_8_6, .ref h_8_7, .int h_8_8, .int h_8_9, .int h_8_10, .int h_8_11, .ref h_8_12, .int h_8_13, .ref h_8_14, .int h_8_15, .int h_8_16]))] ct sz)) (va_Qi (fun (r : Int32) (u : Unit) => r = sp_field a1 a2 a3) (fun _ _ => True) (va_A [(h, .inr (11, [.ref h_0, .ref h_1, .ref h_2, .ref h_3, .ref h_4, .ref h_5, .ref h_6, .ref h_7, .ref h_8, .ref h_9, .ref h_10, .ref h_11, .ref h_12, .int h_13, .int h_14])), (h_7, .inr (7, [.ref h_7_0, .ref h_7_1, .ref h_7_2, .int h_7_3, .int h_7_4, .int h_7_5, .int h_7_6, .int h_7_7, .long h_7_8, .long h_7_9, .int h_7_10, .ref h_7_11, .ref h_7_12, .ref h_7_13])), (h_7_1, .inl (ct 1, 5, .inl f)), (h_7_2, .inl (ct 1, 5, .inl g)), (h_8, .inr (8, [.ref h_8_0, .ref h_8_1, .ref h_8_2, .ref h_8_3, .ref h_8_4, .ref h_8_5, .ref h_8_6, .ref h_8_7, .int h_8_8, .int h_8_9, .int h_8_10, .int h_8_11, .ref h_8_12, .int h_8_13, .ref h_8_14, .int h_8_15, .int h_8_16]))] sz)) 0 0 (va_A [(h, .inr (11, [.ref h_0, .ref h_1, .ref h_2, .ref h_3, .ref h_4, .ref h_5, .ref h_6, .ref h_7, .ref h_8, .ref h_9, .ref h_10, .ref h_11, .ref h_12, .int h_13, .int h_14])), (h_7, .inr (7, [.ref h_7_0, .ref h_7_1, .ref h_7_2, .int h_7_3, .int h_7_4, .int h_7_5, .int h_7_6, .int h_7_7, .long h_7_8, .long h_7_9, .int h_7_10, .ref h_7_11, .ref h_7_12, .ref h_7_13])), (h_7_1, .inl (ct 1, 5, .inl f)), (h_7_2, .inl (ct 1, 5, .inl g)), (h_8, .inr (8, [.ref h_8_0, .ref h_8_1, .ref h_8_2, .ref h_8_3, .ref h_8_4, .ref h_8_5, .ref h_8_6, .ref h_8_7, .int h_8_8, .int h_8_9, .int h_8_10, .int h_8_11, .ref h_8_12, .int h_8_13, .ref h_8_14, .int h_8_15, .int h_8_16]))] sz) := by
  refine Met.ofW (cc := cX11_field) (maxL := 4) (ret := (some .int)) (by decide) rfl ?_
  intro p e s m args below meth c s₁ B hml hv
  obtain ⟨rfl, hsz, hP, hKK, hD0⟩ := hv
  have hK := hKK.1
  have hx := B.exec
  have hb := B.bytes
  have hr := B.returns
  have hg : ∀ w ∈ gl, w.before _ s = true := fun w h => atoms_spec (ws := wk yX11_field cX11_field 4 (some .int)) B.pre w (List.mem_cons_of_mem _ h)
  have hown : s.vm.findClass RX11 = some m.cls := findClass_of_methodNamed B.named
  have hlocks := B.notSynchronized
  subst hsz
  have hD := hD0.self (sz := s.heap.size)
  generalize hAe : va_A [(h, .inr (11, [.ref h_0, .ref h_1, .ref h_2, .ref h_3, .ref h_4, .ref h_5, .ref h_6, .ref h_7, .ref h_8, .ref h_9, .ref h_10, .ref h_11, .ref h_12, .int h_13, .int h_14])), (h_7, .inr (7, [.ref h_7_0, .ref h_7_1, .ref h_7_2, .int h_7_3, .int h_7_4, .int h_7_5, .int h_7_6, .int h_7_7, .long h_7_8, .long h_7_9, .int h_7_10, .ref h_7_11, .ref h_7_12, .ref h_7_13])), (h_7_1, .inl (ct 1, 5, .inl f)), (h_7_2, .inl (ct 1, 5, .inl g)), (h_8, .inr (8, [.ref h_8_0, .ref h_8_1, .ref h_8_2, .ref h_8_3, .ref h_8_4, .ref h_8_5, .ref h_8_6, .ref h_8_7, .int h_8_8, .int h_8_9, .int h_8_10, .int h_8_11, .ref h_8_12, .int h_8_13, .ref h_8_14, .int h_8_15, .int h_8_16]))] s.heap.size = A at hD ⊢
  have hA : ∀ q : Nat, s.heap.size ≤ q → A q := fun q h => by rw [← hAe]; exact Or.inr h
  have hS : va_S A s.heap s.heap [] := va_S.rf
  have hl := lv_entry ([.ref h, .int a1, .int a2, .int a3]) (n := 4) (Nat.le_of_ble_eq_true rfl)
  rw [lg_entry_eq]
  generalize (lg_sl ([.ref h, .int a1, .int a2, .int a3]) ++ List.replicate (4 - (lg_sl ([.ref h, .int a1, .int a2, .int a3])).length) Slot.unset).toArray = ls at hl ⊢
  have hl : lv_has ls 4 [(0, .ref h), (1, .int a1), (2, .int a2), (3, .int a3)] := hl
  refine lv_iload_n hx hb dX11_field_0 rfl (lv_at hl 1 rfl) ?_
  refine lv_iconst (v := 0) hx hb dX11_field_1 (by decide) ?_
  refine lv_iconst (v := 4) hx hb dX11_field_2 (by decide) ?_
  have hPc := hP.sub (ws' := []) [] rfl
  refine z_calli (va_runS (As := [.int a1, .int 0, .int 4]) (rest := []) ⟨hx, hb, hml, hown, hg⟩ (c_within l D ct a1 0 4 ) (va_cwS 3 hg (gd_S wd_959 wd_917 wd_107 wd_918) rfl rfl rfl (by decide +kernel) ⟨Nat.le_of_ble_eq_true rfl, Nat.le_of_ble_eq_true rfl⟩) (Wr_S hPc hKK) rfl rfl hl.1 rfl (lv_room (Nat.le_of_ble_eq_true rfl)) dX11_field_3 ⟨Nat.le_of_ble_eq_true rfl, Nat.le_of_ble_eq_true rfl⟩) (fun r_1 hw_1 => ?_)
  subst hw_1
  refine lv_if_eq (tgt := 29) hx hb dX11_field_6 (by decide) (fun c_2 => ?_) (fun c_2 => ?_)
  · refine lv_aload_n hx hb dX11_field_29 rfl (lv_at hl 0 rfl) ?_
    refine lv_iconst (v := (-1)) hx hb dX11_field_30 (by decide) ?_
    have hPc := hP.sub (ws' := [(h, .inr (11, [.ref h_0, .ref h_1, .ref h_2, .ref h_3, .ref h_4, .ref h_5, .ref h_6, .ref h_7, .ref h_8, .ref h_9, .ref h_10, .ref h_11, .ref h_12, .int h_13, .int h_14]))]) [0] rfl
    have hDc := hD.sub (ws' := [(h, .inr (11, [.ref h_0, .ref h_1, .ref h_2, .ref h_3, .ref h_4, .ref h_5, .ref h_6, .ref h_7, .ref h_8, .ref h_9, .ref h_10, .ref h_11, .ref h_12, .int h_13, .int h_14]))]) [0] (by decide) rfl
    have hFc := va_free (wc := [(h, .inr (11, [.ref h_0, .ref h_1, .ref h_2, .ref h_3, .ref h_4, .ref h_5, .ref h_6, .ref h_7, .ref h_8, .ref h_9, .ref h_10, .ref h_11, .ref h_12, .int h_13, .int h_14]))]) hD hS hA [0] rfl
    refine va_calli (va_runV (As := [.int (-1)]) (rest := []) ⟨hx, hb, hml, hown, hg⟩ (c_refuse l D ct h (-1) h_0 h_1 h_2 h_3 h_4 h_5 h_6 h_7 h_8 h_9 h_10 h_11 h_12 h_13 h_14 s.heap.size ) (cwV 1 hg (gd_V wd_778 wd_780 wd_3 wd_107 wd_781) rfl rfl rfl (by decide +kernel) ⟨Nat.le_of_ble_eq_true rfl, Nat.le_of_ble_eq_true rfl⟩) (Wd_V hPc hKK hDc (va_recv hK hPc (ci := 11) (q0 := 0) rfl rfl)) rfl rfl hl.1 rfl (lv_room (Nat.le_of_ble_eq_true rfl)) dX11_field_31 ⟨Nat.le_of_ble_eq_true rfl, Nat.le_of_ble_eq_true rfl⟩) hS (fun q _ h => hFc q h) hFc (fun r_3 u_3 t_3 H1 locs ht_3 hvm_3 hw_3 hB_3 hz_3 hk_3 hS => ?_)
    obtain ⟨hP, hD⟩ := va_join (wr := [(h_7, .inr (7, [.ref h_7_0, .ref h_7_1, .ref h_7_2, .int h_7_3, .int h_7_4, .int h_7_5, .int h_7_6, .int h_7_7, .long h_7_8, .long h_7_9, .int h_7_10, .ref h_7_11, .ref h_7_12, .ref h_7_13])), (h_7_1, .inl (ct 1, 5, .inl f)), (h_7_2, .inl (ct 1, 5, .inl g)), (h_8, .inr (8, [.ref h_8_0, .ref h_8_1, .ref h_8_2, .ref h_8_3, .ref h_8_4, .ref h_8_5, .ref h_8_6, .ref h_8_7, .int h_8_8, .int h_8_9, .int h_8_10, .int h_8_11, .ref h_8_12, .int h_8_13, .ref h_8_14, .int h_8_15, .int h_8_16]))]) (w1 := []) hP hD [0] [1, 2, 3, 4] rfl rfl (by decide) (by decide) hk_3 hFc (fun k q h => by simp at h) ⟨fun i j p q h => by simp at h, fun k q h => by simp at h⟩
    generalize H1 = H at hP hS ⊢
    have hP : va_P D vwCl [(h_7, .inr (7, [.ref h_7_0, .ref h_7_1, .ref h_7_2, .int h_7_3, .int h_7_4, .int h_7_5, .int h_7_6, .int h_7_7, .long h_7_8, .long h_7_9, .int h_7_10, .ref h_7_11, .ref h_7_12, .ref h_7_13])), (h_7_1, .inl (ct 1, 5, .inl f)), (h_7_2, .inl (ct 1, 5, .inl g)), (h_8, .inr (8, [.ref h_8_0, .ref h_8_1, .ref h_8_2, .ref h_8_3, .ref h_8_4, .ref h_8_5, .ref h_8_6, .ref h_8_7, .int h_8_8, .int h_8_9, .int h_8_10, .int h_8_11, .ref h_8_12, .int h_8_13, .ref h_8_14, .int h_8_15, .int h_8_16]))] H := hP
    have hD : va_D A [(h_7, .inr (7, [.ref h_7_0, .ref h_7_1, .ref h_7_2, .int h_7_3, .int h_7_4, .int h_7_5, .int h_7_6, .int h_7_7, .long h_7_8, .long h_7_9, .int h_7_10, .ref h_7_11, .ref h_7_12, .ref h_7_13])), (h_7_1, .inl (ct 1, 5, .inl f)), (h_7_2, .inl (ct 1, 5, .inl g)), (h_8, .inr (8, [.ref h_8_0, .ref h_8_1, .ref h_8_2, .ref h_8_3, .ref h_8_4, .ref h_8_5, .ref h_8_6, .ref h_8_7, .int h_8_8, .int h_8_9, .int h_8_10, .int h_8_11, .ref h_8_12, .int h_8_13, .ref h_8_14, .int h_8_15, .int h_8_16]))] := hD
    subst hw_3
    exact W.iret (v := (-1)) hx hb hr (fun t ht hW => ⟨⟨(-1), (), rfl, (by simp [sp_field, c_2]), trivial⟩, hS.F ht⟩) hS.2.2 dX11_field_34
  · refine lv_iload_n hx hb dX11_field_9 rfl (lv_at hl 2 rfl) ?_
    refine lv_iconst (v := 1) hx hb dX11_field_10 (by decide) ?_
    refine lv_bipush (v := 99) hx hb dX11_field_11 (by decide) ?_
    have hPc := hP.sub (ws' := []) [] rfl
    refine z_calli (va_runS (As := [.int a2, .int 1, .int 99]) (rest := []) ⟨hx, hb, hml, hown, hg⟩ (c_within l D ct a2 1 99 ) (va_cwS 3 hg (gd_S wd_959 wd_917 wd_107 wd_918) rfl rfl rfl (by decide +kernel) ⟨Nat.le_of_ble_eq_true rfl, Nat.le_of_ble_eq_true rfl⟩) (Wr_S hPc hKK) rfl rfl hl.1 rfl (lv_room (Nat.le_of_ble_eq_true rfl)) dX11_field_13 ⟨Nat.le_of_ble_eq_true rfl, Nat.le_of_ble_eq_true rfl⟩) (fun r_4 hw_4 => ?_)
    subst hw_4
    refine lv_if_eq (tgt := 29) hx hb dX11_field_16 (by decide) (fun c_5 => ?_) (fun c_5 => ?_)
    · refine lv_aload_n hx hb dX11_field_29 rfl (lv_at hl 0 rfl) ?_
      refine lv_iconst (v := (-1)) hx hb dX11_field_30 (by decide) ?_
      have hPc := hP.sub (ws' := [(h, .inr (11, [.ref h_0, .ref h_1, .ref h_2, .ref h_3, .ref h_4, .ref h_5, .ref h_6, .ref h_7, .ref h_8, .ref h_9, .ref h_10, .ref h_11, .ref h_12, .int h_13, .int h_14]))]) [0] rfl
      have hDc := hD.sub (ws' := [(h, .inr (11, [.ref h_0, .ref h_1, .ref h_2, .ref h_3, .ref h_4, .ref h_5, .ref h_6, .ref h_7, .ref h_8, .ref h_9, .ref h_10, .ref h_11, .ref h_12, .int h_13, .int h_14]))]) [0] (by decide) rfl
      have hFc := va_free (wc := [(h, .inr (11, [.ref h_0, .ref h_1, .ref h_2, .ref h_3, .ref h_4, .ref h_5, .ref h_6, .ref h_7, .ref h_8, .ref h_9, .ref h_10, .ref h_11, .ref h_12, .int h_13, .int h_14]))]) hD hS hA [0] rfl
      refine va_calli (va_runV (As := [.int (-1)]) (rest := []) ⟨hx, hb, hml, hown, hg⟩ (c_refuse l D ct h (-1) h_0 h_1 h_2 h_3 h_4 h_5 h_6 h_7 h_8 h_9 h_10 h_11 h_12 h_13 h_14 s.heap.size ) (cwV 1 hg (gd_V wd_778 wd_780 wd_3 wd_107 wd_781) rfl rfl rfl (by decide +kernel) ⟨Nat.le_of_ble_eq_true rfl, Nat.le_of_ble_eq_true rfl⟩) (Wd_V hPc hKK hDc (va_recv hK hPc (ci := 11) (q0 := 0) rfl rfl)) rfl rfl hl.1 rfl (lv_room (Nat.le_of_ble_eq_true rfl)) dX11_field_31 ⟨Nat.le_of_ble_eq_true rfl, Nat.le_of_ble_eq_true rfl⟩) hS (fun q _ h => hFc q h) hFc (fun r_6 u_6 t_6 H1 locs ht_6 hvm_6 hw_6 hB_6 hz_6 hk_6 hS => ?_)
      obtain ⟨hP, hD⟩ := va_join (wr := [(h_7, .inr (7, [.ref h_7_0, .ref h_7_1, .ref h_7_2, .int h_7_3, .int h_7_4, .int h_7_5, .int h_7_6, .int h_7_7, .long h_7_8, .long h_7_9, .int h_7_10, .ref h_7_11, .ref h_7_12, .ref h_7_13])), (h_7_1, .inl (ct 1, 5, .inl f)), (h_7_2, .inl (ct 1, 5, .inl g)), (h_8, .inr (8, [.ref h_8_0, .ref h_8_1, .ref h_8_2, .ref h_8_3, .ref h_8_4, .ref h_8_5, .ref h_8_6, .ref h_8_7, .int h_8_8, .int h_8_9, .int h_8_10, .int h_8_11, .ref h_8_12, .int h_8_13, .ref h_8_14, .int h_8_15, .int h_8_16]))]) (w1 := []) hP hD [0] [1, 2, 3, 4] rfl rfl (by decide) (by decide) hk_6 hFc (fun k q h => by simp at h) ⟨fun i j p q h => by simp at h, fun k q h => by simp at h⟩
      generalize H1 = H at hP hS ⊢
      have hP : va_P D vwCl [(h_7, .inr (7, [.ref h_7_0, .ref h_7_1, .ref h_7_2, .int h_7_3, .int h_7_4, .int h_7_5, .int h_7_6, .int h_7_7, .long h_7_8, .long h_7_9, .int h_7_10, .ref h_7_11, .ref h_7_12, .ref h_7_13])), (h_7_1, .inl (ct 1, 5, .inl f)), (h_7_2, .inl (ct 1, 5, .inl g)), (h_8, .inr (8, [.ref h_8_0, .ref h_8_1, .ref h_8_2, .ref h_8_3, .ref h_8_4, .ref h_8_5, .ref h_8_6, .ref h_8_7, .int h_8_8, .int h_8_9, .int h_8_10, .int h_8_11, .ref h_8_12, .int h_8_13, .ref h_8_14, .int h_8_15, .int h_8_16]))] H := hP
      have hD : va_D A [(h_7, .inr (7, [.ref h_7_0, .ref h_7_1, .ref h_7_2, .int h_7_3, .int h_7_4, .int h_7_5, .int h_7_6, .int h_7_7, .long h_7_8, .long h_7_9, .int h_7_10, .ref h_7_11, .ref h_7_12, .ref h_7_13])), (h_7_1, .inl (ct 1, 5, .inl f)), (h_7_2, .inl (ct 1, 5, .inl g)), (h_8, .inr (8, [.ref h_8_0, .ref h_8_1, .ref h_8_2, .ref h_8_3, .ref h_8_4, .ref h_8_5, .ref h_8_6, .ref h_8_7, .int h_8_8, .int h_8_9, .int h_8_10, .int h_8_11, .ref h_8_12, .int h_8_13, .ref h_8_14, .int h_8_15, .int h_8_16]))] := hD
      subst hw_6
      exact W.iret (v := (-1)) hx hb hr (fun t ht hW => ⟨⟨(-1), (), rfl, (by simp [sp_field, c_2, c_5]), trivial⟩, hS.F ht⟩) hS.2.2 dX11_field_34
    · refine lv_iload_n hx hb dX11_field_19 rfl (lv_at hl 3 rfl) ?_
      refine lv_iconst (v := 1) hx hb dX11_field_20 (by decide) ?_
      refine lv_bipush (v := 99) hx hb dX11_field_21 (by decide) ?_
      have hPc := hP.sub (ws' := []) [] rfl
      refine z_calli (va_runS (As := [.int a3, .int 1, .int 99]) (rest := []) ⟨hx, hb, hml, hown, hg⟩ (c_within l D ct a3 1 99 ) (va_cwS 3 hg (gd_S wd_959 wd_917 wd_107 wd_918) rfl rfl rfl (by decide +kernel) ⟨Nat.le_of_ble_eq_true rfl, Nat.le_of_ble_eq_true rfl⟩) (Wr_S hPc hKK) rfl rfl hl.1 rfl (lv_room (Nat.le_of_ble_eq_true rfl)) dX11_field_23 ⟨Nat.le_of_ble_eq_true rfl, Nat.le_of_ble_eq_true rfl⟩) (fun r_7 hw_7 => ?_)
      subst hw_7
      refine lv_if_ne (tgt := 35) hx hb dX11_field_26 (by decide) (fun c_8 => ?_) (fun c_8 => ?_)
      · refine lv_aload_n hx hb dX11_field_35 rfl (lv_at hl 0 rfl) ?_
        refine va_get (D := D) (ci := 11) (v := .ref h_7) (C := RX11) (T := TX11) (N := 15) hx hb hg inX11 hown hK hP 0 rfl rfl 7 (by decide) (hg _ wd_690) (fun _ h9 => h9) rfl dX11_field_36 ?_
        refine va_get (D := D) (ci := 7) (v := .ref h_7_1) (C := RX7) (T := TX7) (N := 14) hx hb hg inX7 hown hK hP 1 rfl rfl 1 (by decide) (hg _ wd_368) (fun _ h9 => h9) rfl dX11_field_39 ?_
        refine lv_iload_n hx hb dX11_field_42 rfl (lv_at hl 1 rfl) ?_
        refine lv_iload_n hx hb dX11_field_43 rfl (lv_at hl 2 rfl) ?_
        refine va_iast hx hb hK hP hD hS 2 1 rfl rfl (bw_in (by assumption) (by decide)) dX11_field_44 (fun H locs hP hD hS => ?_)
        obtain ⟨f_9, ef_9⟩ : ∃ z : Nat → Int32, z = upd f a1.toNatClampNeg a2 := ⟨_, rfl⟩
        have hP : va_P D vwCl [(h, .inr (11, [.ref h_0, .ref h_1, .ref h_2, .ref h_3, .ref h_4, .ref h_5, .ref h_6, .ref h_7, .ref h_8, .ref h_9, .ref h_10, .ref h_11, .ref h_12, .int h_13, .int h_14])), (h_7, .inr (7, [.ref h_7_0, .ref h_7_1, .ref h_7_2, .int h_7_3, .int h_7_4, .int h_7_5, .int h_7_6, .int h_7_7, .long h_7_8, .long h_7_9, .int h_7_10, .ref h_7_11, .ref h_7_12, .ref h_7_13])), (h_7_1, .inl (ct 1, 5, .inl f_9)), (h_7_2, .inl (ct 1, 5, .inl g)), (h_8, .inr (8, [.ref h_8_0, .ref h_8_1, .ref h_8_2, .ref h_8_3, .ref h_8_4, .ref h_8_5, .ref h_8_6, .ref h_8_7, .int h_8_8, .int h_8_9, .int h_8_10, .int h_8_11, .ref h_8_12, .int h_8_13, .ref h_8_14, .int h_8_15, .int h_8_16]))] H := by rw [ef_9]; exact hP
        have hD : va_D A [(h, .inr (11, [.ref h_0, .ref h_1, .ref h_2, .ref h_3, .ref h_4, .ref h_5, .ref h_6, .ref h_7, .ref h_8, .ref h_9, .ref h_10, .ref h_11, .ref h_12, .int h_13, .int h_14])), (h_7, .inr (7, [.ref h_7_0, .ref h_7_1, .ref h_7_2, .int h_7_3, .int h_7_4, .int h_7_5, .int h_7_6, .int h_7_7, .long h_7_8, .long h_7_9, .int h_7_10, .ref h_7_11, .ref h_7_12, .ref h_7_13])), (h_7_1, .inl (ct 1, 5, .inl f_9)), (h_7_2, .inl (ct 1, 5, .inl g)), (h_8, .inr (8, [.ref h_8_0, .ref h_8_1, .ref h_8_2, .ref h_8_3, .ref h_8_4, .ref h_8_5, .ref h_8_6, .ref h_8_7, .int h_8_8, .int h_8_9, .int h_8_10, .int h_8_11, .ref h_8_12, .int h_8_13, .ref h_8_14, .int h_8_15, .int h_8_16]))] := by rw [ef_9]; exact hD
        refine lv_aload_n hx hb dX11_field_45 rfl (lv_at hl 0 rfl) ?_
        refine va_get (D := D) (ci := 11) (v := .ref h_7) (C := RX11) (T := TX11) (N := 15) hx hb hg inX11 hown hK hP 0 rfl rfl 7 (by decide) (hg _ wd_690) (fun _ h9 => h9) rfl dX11_field_46 ?_
        refine va_get (D := D) (ci := 7) (v := .ref h_7_2) (C := RX7) (T := TX7) (N := 14) hx hb hg inX7 hown hK hP 1 rfl rfl 2 (by decide) (hg _ wd_370) (fun _ h9 => h9) rfl dX11_field_49 ?_
        refine lv_iload_n hx hb dX11_field_52 rfl (lv_at hl 1 rfl) ?_
        refine lv_iload_n hx hb dX11_field_53 rfl (lv_at hl 3 rfl) ?_
        refine va_iast hx hb hK hP hD hS 3 1 rfl rfl (bw_in (by assumption) (by decide)) dX11_field_54 (fun H locs hP hD hS => ?_)
        obtain ⟨f_10, ef_10⟩ : ∃ z : Nat → Int32, z = upd g a1.toNatClampNeg a3 := ⟨_, rfl⟩
        have hP : va_P D vwCl [(h, .inr (11, [.ref h_0, .ref h_1, .ref h_2, .ref h_3, .ref h_4, .ref h_5, .ref h_6, .ref h_7, .ref h_8, .ref h_9, .ref h_10, .ref h_11, .ref h_12, .int h_13, .int h_14])), (h_7, .inr (7, [.ref h_7_0, .ref h_7_1, .ref h_7_2, .int h_7_3, .int h_7_4, .int h_7_5, .int h_7_6, .int h_7_7, .long h_7_8, .long h_7_9, .int h_7_10, .ref h_7_11, .ref h_7_12, .ref h_7_13])), (h_7_1, .inl (ct 1, 5, .inl f_9)), (h_7_2, .inl (ct 1, 5, .inl f_10)), (h_8, .inr (8, [.ref h_8_0, .ref h_8_1, .ref h_8_2, .ref h_8_3, .ref h_8_4, .ref h_8_5, .ref h_8_6, .ref h_8_7, .int h_8_8, .int h_8_9, .int h_8_10, .int h_8_11, .ref h_8_12, .int h_8_13, .ref h_8_14, .int h_8_15, .int h_8_16]))] H := by rw [ef_10]; exact hP
        have hD : va_D A [(h, .inr (11, [.ref h_0, .ref h_1, .ref h_2, .ref h_3, .ref h_4, .ref h_5, .ref h_6, .ref h_7, .ref h_8, .ref h_9, .ref h_10, .ref h_11, .ref h_12, .int h_13, .int h_14])), (h_7, .inr (7, [.ref h_7_0, .ref h_7_1, .ref h_7_2, .int h_7_3, .int h_7_4, .int h_7_5, .int h_7_6, .int h_7_7, .long h_7_8, .long h_7_9, .int h_7_10, .ref h_7_11, .ref h_7_12, .ref h_7_13])), (h_7_1, .inl (ct 1, 5, .inl f_9)), (h_7_2, .inl (ct 1, 5, .inl f_10)), (h_8, .inr (8, [.ref h_8_0, .ref h_8_1, .ref h_8_2, .ref h_8_3, .ref h_8_4, .ref h_8_5, .ref h_8_6, .ref h_8_7, .int h_8_8, .int h_8_9, .int h_8_10, .int h_8_11, .ref h_8_12, .int h_8_13, .ref h_8_14, .int h_8_15, .int h_8_16]))] := by rw [ef_10]; exact hD
        refine lv_aload_n hx hb dX11_field_55 rfl (lv_at hl 0 rfl) ?_
        refine va_get (D := D) (ci := 11) (v := .ref h_8) (C := RX11) (T := TX11) (N := 15) hx hb hg inX11 hown hK hP 0 rfl rfl 8 (by decide) (hg _ wd_691) (fun _ h9 => h9) rfl dX11_field_56 ?_
        have hPc := hP.sub (ws' := [(h_8, .inr (8, [.ref h_8_0, .ref h_8_1, .ref h_8_2, .ref h_8_3, .ref h_8_4, .ref h_8_5, .ref h_8_6, .ref h_8_7, .int h_8_8, .int h_8_9, .int h_8_10, .int h_8_11, .ref h_8_12, .int h_8_13, .ref h_8_14, .int h_8_15, .int h_8_16]))]) [4] rfl
        have hDc := hD.sub (ws' := [(h_8, .inr (8, [.ref h_8_0, .ref h_8_1, .ref h_8_2, .ref h_8_3, .ref h_8_4, .ref h_8_5, .ref h_8_6, .ref h_8_7, .int h_8_8, .int h_8_9, .int h_8_10, .int h_8_11, .ref h_8_12, .int h_8_13, .ref h_8_14, .int h_8_15, .int h_8_16]))]) [4] (by decide) rfl
        have hFc := va_free (wc := [(h_8, .inr (8, [.ref h_8_0, .ref h_8_1, .ref h_8_2, .ref h_8_3, .ref h_8_4, .ref h_8_5, .ref h_8_6, .ref h_8_7, .int h_8_8, .int h_8_9, .int h_8_10, .int h_8_11, .ref h_8_12, .int h_8_13, .ref h_8_14, .int h_8_15, .int h_8_16]))]) hD hS hA [4] rfl
        refine va_callv (va_runV (As := []) (rest := []) ⟨hx, hb, hml, hown, hg⟩ (c_forget l D ct h_8 h_8_0 h_8_1 h_8_2 h_8_3 h_8_4 h_8_5 h_8_6 h_8_7 h_8_8 h_8_9 h_8_10 h_8_11 h_8_12 h_8_13 h_8_14 h_8_15 h_8_16 H.size ) (cwV 0 hg (gd_V wd_801 wd_802 wd_803 wd_114 wd_804) rfl rfl rfl (by decide +kernel) ⟨Nat.le_of_ble_eq_true rfl, Nat.le_of_ble_eq_true rfl⟩) (Wd_V hPc hKK hDc (va_recv hK hPc (ci := 8) (q0 := 0) rfl rfl)) rfl rfl hl.1 rfl (lv_room (Nat.le_of_ble_eq_true rfl)) dX11_field_59 ⟨Nat.le_of_ble_eq_true rfl, Nat.le_of_ble_eq_true rfl⟩) hS (fun q _ h => hFc q h) hFc (fun u_11 t_11 H1 locs ht_11 hvm_11 hw_11 hB_11 hz_11 hk_11 hS => ?_)
        obtain ⟨hP, hD⟩ := va_join (wr := [(h, .inr (11, [.ref h_0, .ref h_1, .ref h_2, .ref h_3, .ref h_4, .ref h_5, .ref h_6, .ref h_7, .ref h_8, .ref h_9, .ref h_10, .ref h_11, .ref h_12, .int h_13, .int h_14])), (h_7, .inr (7, [.ref h_7_0, .ref h_7_1, .ref h_7_2, .int h_7_3, .int h_7_4, .int h_7_5, .int h_7_6, .int h_7_7, .long h_7_8, .long h_7_9, .int h_7_10, .ref h_7_11, .ref h_7_12, .ref h_7_13])), (h_7_1, .inl (ct 1, 5, .inl f_9)), (h_7_2, .inl (ct 1, 5, .inl f_10))]) (w1 := []) hP hD [4] [0, 1, 2, 3] rfl rfl (by decide) (by decide) hk_11 hFc (fun k q h => by simp at h) ⟨fun i j p q h => by simp at h, fun k q h => by simp at h⟩
        generalize H1 = H at hP hS ⊢
        have hP : va_P D vwCl [(h, .inr (11, [.ref h_0, .ref h_1, .ref h_2, .ref h_3, .ref h_4, .ref h_5, .ref h_6, .ref h_7, .ref h_8, .ref h_9, .ref h_10, .ref h_11, .ref h_12, .int h_13, .int h_14])), (h_7, .inr (7, [.ref h_7_0, .ref h_7_1, .ref h_7_2, .int h_7_3, .int h_7_4, .int h_7_5, .int h_7_6, .int h_7_7, .long h_7_8, .long h_7_9, .int h_7_10, .ref h_7_11, .ref h_7_12, .ref h_7_13])), (h_7_1, .inl (ct 1, 5, .inl f_9)), (h_7_2, .inl (ct 1, 5, .inl f_10))] H := hP
        have hD : va_D A [(h, .inr (11, [.ref h_0, .ref h_1, .ref h_2, .ref h_3, .ref h_4, .ref h_5, .ref h_6, .ref h_7, .ref h_8, .ref h_9, .ref h_10, .ref h_11, .ref h_12, .int h_13, .int h_14])), (h_7, .inr (7, [.ref h_7_0, .ref h_7_1, .ref h_7_2, .int h_7_3, .int h_7_4, .int h_7_5, .int h_7_6, .int h_7_7, .long h_7_8, .long h_7_9, .int h_7_10, .ref h_7_11, .ref h_7_12, .ref h_7_13])), (h_7_1, .inl (ct 1, 5, .inl f_9)), (h_7_2, .inl (ct 1, 5, .inl f_10))] := hD
        refine lv_aload_n hx hb dX11_field_62 rfl (lv_at hl 0 rfl) ?_
        refine lv_iconst (v := 0) hx hb dX11_field_63 (by decide) ?_
        have hPc := hP.sub (ws' := [(h, .inr (11, [.ref h_0, .ref h_1, .ref h_2, .ref h_3, .ref h_4, .ref h_5, .ref h_6, .ref h_7, .ref h_8, .ref h_9, .ref h_10, .ref h_11, .ref h_12, .int h_13, .int h_14]))]) [0] rfl
        have hDc := hD.sub (ws' := [(h, .inr (11, [.ref h_0, .ref h_1, .ref h_2, .ref h_3, .ref h_4, .ref h_5, .ref h_6, .ref h_7, .ref h_8, .ref h_9, .ref h_10, .ref h_11, .ref h_12, .int h_13, .int h_14]))]) [0] (by decide) rfl
        have hFc := va_free (wc := [(h, .inr (11, [.ref h_0, .ref h_1, .ref h_2, .ref h_3, .ref h_4, .ref h_5, .ref h_6, .ref h_7, .ref h_8, .ref h_9, .ref h_10, .ref h_11, .ref h_12, .int h_13, .int h_14]))]) hD hS hA [0] rfl
        refine va_calli (va_runV (As := [.int 0]) (rest := []) ⟨hx, hb, hml, hown, hg⟩ (c_accept l D ct h 0 h_0 h_1 h_2 h_3 h_4 h_5 h_6 h_7 h_8 h_9 h_10 h_11 h_12 h_13 h_14 H.size ) (cwV 1 hg (gd_V wd_805 wd_807 wd_5 wd_107 wd_808) rfl rfl rfl (by decide +kernel) ⟨Nat.le_of_ble_eq_true rfl, Nat.le_of_ble_eq_true rfl⟩) (Wd_V hPc hKK hDc (va_recv hK hPc (ci := 11) (q0 := 0) rfl rfl)) rfl rfl hl.1 rfl (lv_room (Nat.le_of_ble_eq_true rfl)) dX11_field_64 ⟨Nat.le_of_ble_eq_true rfl, Nat.le_of_ble_eq_true rfl⟩) hS (fun q _ h => hFc q h) hFc (fun r_12 u_12 t_12 H1 locs ht_12 hvm_12 hw_12 hB_12 hz_12 hk_12 hS => ?_)
        obtain ⟨hP, hD⟩ := va_join (wr := [(h_7, .inr (7, [.ref h_7_0, .ref h_7_1, .ref h_7_2, .int h_7_3, .int h_7_4, .int h_7_5, .int h_7_6, .int h_7_7, .long h_7_8, .long h_7_9, .int h_7_10, .ref h_7_11, .ref h_7_12, .ref h_7_13])), (h_7_1, .inl (ct 1, 5, .inl f_9)), (h_7_2, .inl (ct 1, 5, .inl f_10))]) (w1 := []) hP hD [0] [1, 2, 3] rfl rfl (by decide) (by decide) hk_12 hFc (fun k q h => by simp at h) ⟨fun i j p q h => by simp at h, fun k q h => by simp at h⟩
        generalize H1 = H at hP hS ⊢
        have hP : va_P D vwCl [(h_7, .inr (7, [.ref h_7_0, .ref h_7_1, .ref h_7_2, .int h_7_3, .int h_7_4, .int h_7_5, .int h_7_6, .int h_7_7, .long h_7_8, .long h_7_9, .int h_7_10, .ref h_7_11, .ref h_7_12, .ref h_7_13])), (h_7_1, .inl (ct 1, 5, .inl f_9)), (h_7_2, .inl (ct 1, 5, .inl f_10))] H := hP
        have hD : va_D A [(h_7, .inr (7, [.ref h_7_0, .ref h_7_1, .ref h_7_2, .int h_7_3, .int h_7_4, .int h_7_5, .int h_7_6, .int h_7_7, .long h_7_8, .long h_7_9, .int h_7_10, .ref h_7_11, .ref h_7_12, .ref h_7_13])), (h_7_1, .inl (ct 1, 5, .inl f_9)), (h_7_2, .inl (ct 1, 5, .inl f_10))] := hD
        subst hw_12
        exact W.iret (v := 0) hx hb hr (fun t ht hW => ⟨⟨0, (), rfl, (by simp [sp_field, c_2, c_5, c_8]), trivial⟩, hS.F ht⟩) hS.2.2 dX11_field_67
      · refine lv_aload_n hx hb dX11_field_29 rfl (lv_at hl 0 rfl) ?_
        refine lv_iconst (v := (-1)) hx hb dX11_field_30 (by decide) ?_
        have hPc := hP.sub (ws' := [(h, .inr (11, [.ref h_0, .ref h_1, .ref h_2, .ref h_3, .ref h_4, .ref h_5, .ref h_6, .ref h_7, .ref h_8, .ref h_9, .ref h_10, .ref h_11, .ref h_12, .int h_13, .int h_14]))]) [0] rfl
        have hDc := hD.sub (ws' := [(h, .inr (11, [.ref h_0, .ref h_1, .ref h_2, .ref h_3, .ref h_4, .ref h_5, .ref h_6, .ref h_7, .ref h_8, .ref h_9, .ref h_10, .ref h_11, .ref h_12, .int h_13, .int h_14]))]) [0] (by decide) rfl
        have hFc := va_free (wc := [(h, .inr (11, [.ref h_0, .ref h_1, .ref h_2, .ref h_3, .ref h_4, .ref h_5, .ref h_6, .ref h_7, .ref h_8, .ref h_9, .ref h_10, .ref h_11, .ref h_12, .int h_13, .int h_14]))]) hD hS hA [0] rfl
        refine va_calli (va_runV (As := [.int (-1)]) (rest := []) ⟨hx, hb, hml, hown, hg⟩ (c_refuse l D ct h (-1) h_0 h_1 h_2 h_3 h_4 h_5 h_6 h_7 h_8 h_9 h_10 h_11 h_12 h_13 h_14 s.heap.size ) (cwV 1 hg (gd_V wd_778 wd_780 wd_3 wd_107 wd_781) rfl rfl rfl (by decide +kernel) ⟨Nat.le_of_ble_eq_true rfl, Nat.le_of_ble_eq_true rfl⟩) (Wd_V hPc hKK hDc (va_recv hK hPc (ci := 11) (q0 := 0) rfl rfl)) rfl rfl hl.1 rfl (lv_room (Nat.le_of_ble_eq_true rfl)) dX11_field_31 ⟨Nat.le_of_ble_eq_true rfl, Nat.le_of_ble_eq_true rfl⟩) hS (fun q _ h => hFc q h) hFc (fun r_13 u_13 t_13 H1 locs ht_13 hvm_13 hw_13 hB_13 hz_13 hk_13 hS => ?_)
        obtain ⟨hP, hD⟩ := va_join (wr := [(h_7, .inr (7, [.ref h_7_0, .ref h_7_1, .ref h_7_2, .int h_7_3, .int h_7_4, .int h_7_5, .int h_7_6, .int h_7_7, .long h_7_8, .long h_7_9, .int h_7_10, .ref h_7_11, .ref h_7_12, .ref h_7_13])), (h_7_1, .inl (ct 1, 5, .inl f)), (h_7_2, .inl (ct 1, 5, .inl g)), (h_8, .inr (8, [.ref h_8_0, .ref h_8_1, .ref h_8_2, .ref h_8_3, .ref h_8_4, .ref h_8_5, .ref h_8_6, .ref h_8_7, .int h_8_8, .int h_8_9, .int h_8_10, .int h_8_11, .ref h_8_12, .int h_8_13, .ref h_8_14, .int h_8_15, .int h_8_16]))]) (w1 := []) hP hD [0] [1, 2, 3, 4] rfl rfl (by decide) (by decide) hk_13 hFc (fun k q h => by simp at h) ⟨fun i j p q h => by simp at h, fun k q h => by simp at h⟩
        generalize H1 = H at hP hS ⊢
        have hP : va_P D vwCl [(h_7, .inr (7, [.ref h_7_0, .ref h_7_1, .ref h_7_2, .int h_7_3, .int h_7_4, .int h_7_5, .int h_7_6, .int h_7_7, .long h_7_8, .long h_7_9, .int h_7_10, .ref h_7_11, .ref h_7_12, .ref h_7_13])), (h_7_1, .inl (ct 1, 5, .inl f)), (h_7_2, .inl (ct 1, 5, .inl g)), (h_8, .inr (8, [.ref h_8_0, .ref h_8_1, .ref h_8_2, .ref h_8_3, .ref h_8_4, .ref h_8_5, .ref h_8_6, .ref h_8_7, .int h_8_8, .int h_8_9, .int h_8_10, .int h_8_11, .ref h_8_12, .int h_8_13, .ref h_8_14, .int h_8_15, .int h_8_16]))] H := hP
        have hD : va_D A [(h_7, .inr (7, [.ref h_7_0, .ref h_7_1, .ref h_7_2, .int h_7_3, .int h_7_4, .int h_7_5, .int h_7_6, .int h_7_7, .long h_7_8, .long h_7_9, .int h_7_10, .ref h_7_11, .ref h_7_12, .ref h_7_13])), (h_7_1, .inl (ct 1, 5, .inl f)), (h_7_2, .inl (ct 1, 5, .inl g)), (h_8, .inr (8, [.ref h_8_0, .ref h_8_1, .ref h_8_2, .ref h_8_3, .ref h_8_4, .ref h_8_5, .ref h_8_6, .ref h_8_7, .int h_8_8, .int h_8_9, .int h_8_10, .int h_8_11, .ref h_8_12, .int h_8_13, .ref h_8_14, .int h_8_15, .int h_8_16]))] := hD
        subst hw_13
        exact W.iret (v := (-1)) hx hb hr (fun t ht hW => ⟨⟨(-1), (), rfl, (by simp [sp_field, c_2, c_5, c_8]), trivial⟩, hS.F ht⟩) hS.2.2 dX11_field_34
