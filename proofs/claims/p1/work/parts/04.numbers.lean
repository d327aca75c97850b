def sp_terms (a1 : Int32) (a2 : Int32) (a3 : Int32) (a4 : Int32) (a5 : Int32) (a6 : Int32) : Int32 := if bw a2 1 1000 = 0 then (-1) else if bw a3 1 1000 = 0 then (-1) else if bw a4 1 1000 = 0 then (-1) else if bw a5 1 1000 = 0 then (-1) else if bw a1 0 3 = 0 then (-1) else if bw a6 0 255 = 0 then (-1) else 0
theorem dX11_terms_0 : decode cX11_terms 0 = .ok (.iload_n 2, 1) := by decide +kernel
theorem dX11_terms_1 : decode cX11_terms 1 = .ok (.iconst 1, 1) := by decide +kernel
theorem dX11_terms_2 : decode cX11_terms 2 = .ok (.sipush 1000, 3) := by decide +kernel
theorem dX11_terms_5 : decode cX11_terms 5 = .ok (.invokestatic 150, 3) := by decide +kernel
theorem dX11_terms_8 : decode cX11_terms 8 = .ok (.ifCond .eq 18, 3) := by decide +kernel
theorem dX11_terms_26 : decode cX11_terms 26 = .ok (.iconst 0, 1) := by decide +kernel
theorem dX11_terms_27 : decode cX11_terms 27 = .ok (.istore 7, 2) := by decide +kernel
theorem dX11_terms_29 : decode cX11_terms 29 = .ok (.iload 4, 2) := by decide +kernel
theorem dX11_terms_31 : decode cX11_terms 31 = .ok (.iconst 1, 1) := by decide +kernel
theorem dX11_terms_32 : decode cX11_terms 32 = .ok (.sipush 1000, 3) := by decide +kernel
theorem dX11_terms_35 : decode cX11_terms 35 = .ok (.invokestatic 150, 3) := by decide +kernel
theorem dX11_terms_38 : decode cX11_terms 38 = .ok (.ifCond .eq 19, 3) := by decide +kernel
theorem dX11_terms_57 : decode cX11_terms 57 = .ok (.iconst 0, 1) := by decide +kernel
theorem dX11_terms_58 : decode cX11_terms 58 = .ok (.istore 8, 2) := by decide +kernel
theorem dX11_terms_60 : decode cX11_terms 60 = .ok (.iload_n 1, 1) := by decide +kernel
theorem dX11_terms_61 : decode cX11_terms 61 = .ok (.iconst 0, 1) := by decide +kernel
theorem dX11_terms_62 : decode cX11_terms 62 = .ok (.iconst 3, 1) := by decide +kernel
theorem dX11_terms_63 : decode cX11_terms 63 = .ok (.invokestatic 150, 3) := by decide +kernel
theorem dX11_terms_66 : decode cX11_terms 66 = .ok (.ifCond .eq 25, 3) := by decide +kernel
theorem dX11_terms_91 : decode cX11_terms 91 = .ok (.aload_n 0, 1) := by decide +kernel
theorem dX11_terms_92 : decode cX11_terms 92 = .ok (.iconst (-1), 1) := by decide +kernel
theorem dX11_terms_93 : decode cX11_terms 93 = .ok (.invokevirtual 118, 3) := by decide +kernel
theorem dX11_terms_96 : decode cX11_terms 96 = .ok (.ireturn, 1) := by decide +kernel
theorem dX11_terms_69 : decode cX11_terms 69 = .ok (.iload 7, 2) := by decide +kernel
theorem dX11_terms_71 : decode cX11_terms 71 = .ok (.ifCond .eq 20, 3) := by decide +kernel
theorem dX11_terms_41 : decode cX11_terms 41 = .ok (.iload 5, 2) := by decide +kernel
theorem dX11_terms_43 : decode cX11_terms 43 = .ok (.iconst 1, 1) := by decide +kernel
theorem dX11_terms_44 : decode cX11_terms 44 = .ok (.sipush 1000, 3) := by decide +kernel
theorem dX11_terms_47 : decode cX11_terms 47 = .ok (.invokestatic 150, 3) := by decide +kernel
theorem dX11_terms_50 : decode cX11_terms 50 = .ok (.ifCond .eq 7, 3) := by decide +kernel
theorem dX11_terms_53 : decode cX11_terms 53 = .ok (.iconst 1, 1) := by decide +kernel
theorem dX11_terms_54 : decode cX11_terms 54 = .ok (.goto 4, 3) := by decide +kernel
theorem dX11_terms_11 : decode cX11_terms 11 = .ok (.iload_n 3, 1) := by decide +kernel
theorem dX11_terms_12 : decode cX11_terms 12 = .ok (.iconst 1, 1) := by decide +kernel
theorem dX11_terms_13 : decode cX11_terms 13 = .ok (.sipush 1000, 3) := by decide +kernel
theorem dX11_terms_16 : decode cX11_terms 16 = .ok (.invokestatic 150, 3) := by decide +kernel
theorem dX11_terms_19 : decode cX11_terms 19 = .ok (.ifCond .eq 7, 3) := by decide +kernel
theorem dX11_terms_22 : decode cX11_terms 22 = .ok (.iconst 1, 1) := by decide +kernel
theorem dX11_terms_23 : decode cX11_terms 23 = .ok (.goto 4, 3) := by decide +kernel
theorem dX11_terms_74 : decode cX11_terms 74 = .ok (.iload 8, 2) := by decide +kernel
theorem dX11_terms_76 : decode cX11_terms 76 = .ok (.ifCond .eq 15, 3) := by decide +kernel
theorem dX11_terms_79 : decode cX11_terms 79 = .ok (.iload 6, 2) := by decide +kernel
theorem dX11_terms_81 : decode cX11_terms 81 = .ok (.iconst 0, 1) := by decide +kernel
theorem dX11_terms_82 : decode cX11_terms 82 = .ok (.sipush 255, 3) := by decide +kernel
theorem dX11_terms_85 : decode cX11_terms 85 = .ok (.invokestatic 150, 3) := by decide +kernel
theorem dX11_terms_88 : decode cX11_terms 88 = .ok (.ifCond .ne 9, 3) := by decide +kernel
theorem dX11_terms_97 : decode cX11_terms 97 = .ok (.aload_n 0, 1) := by decide +kernel
theorem dX11_terms_98 : decode cX11_terms 98 = .ok (.getfield 55, 3) := by decide +kernel
theorem dX11_terms_101 : decode cX11_terms 101 = .ok (.iload_n 1, 1) := by decide +kernel
theorem dX11_terms_102 : decode cX11_terms 102 = .ok (.putfield 210, 3) := by decide +kernel
theorem wd_372 : (Cond.fieldLink "VoteRoll" 210 "VoteRoll$Odds" "slack" "I") ∈ gl := gl_at 372 (by decide +kernel) (by decide +kernel)
theorem dX11_terms_105 : decode cX11_terms 105 = .ok (.aload_n 0, 1) := by decide +kernel
theorem dX11_terms_106 : decode cX11_terms 106 = .ok (.getfield 55, 3) := by decide +kernel
theorem dX11_terms_109 : decode cX11_terms 109 = .ok (.iload_n 2, 1) := by decide +kernel
theorem dX11_terms_110 : decode cX11_terms 110 = .ok (.putfield 213, 3) := by decide +kernel
theorem wd_374 : (Cond.fieldLink "VoteRoll" 213 "VoteRoll$Odds" "priorUpper" "I") ∈ gl := gl_at 374 (by decide +kernel) (by decide +kernel)
theorem dX11_terms_113 : decode cX11_terms 113 = .ok (.aload_n 0, 1) := by decide +kernel
theorem dX11_terms_114 : decode cX11_terms 114 = .ok (.getfield 55, 3) := by decide +kernel
theorem dX11_terms_117 : decode cX11_terms 117 = .ok (.iload_n 3, 1) := by decide +kernel
theorem dX11_terms_118 : decode cX11_terms 118 = .ok (.putfield 216, 3) := by decide +kernel
theorem wd_376 : (Cond.fieldLink "VoteRoll" 216 "VoteRoll$Odds" "priorLower" "I") ∈ gl := gl_at 376 (by decide +kernel) (by decide +kernel)
theorem dX11_terms_121 : decode cX11_terms 121 = .ok (.aload_n 0, 1) := by decide +kernel
theorem dX11_terms_122 : decode cX11_terms 122 = .ok (.getfield 55, 3) := by decide +kernel
theorem dX11_terms_125 : decode cX11_terms 125 = .ok (.iload 4, 2) := by decide +kernel
theorem dX11_terms_127 : decode cX11_terms 127 = .ok (.putfield 219, 3) := by decide +kernel
theorem wd_378 : (Cond.fieldLink "VoteRoll" 219 "VoteRoll$Odds" "boundUpper" "I") ∈ gl := gl_at 378 (by decide +kernel) (by decide +kernel)
theorem dX11_terms_130 : decode cX11_terms 130 = .ok (.aload_n 0, 1) := by decide +kernel
theorem dX11_terms_131 : decode cX11_terms 131 = .ok (.getfield 55, 3) := by decide +kernel
theorem dX11_terms_134 : decode cX11_terms 134 = .ok (.iload 5, 2) := by decide +kernel
theorem dX11_terms_136 : decode cX11_terms 136 = .ok (.putfield 222, 3) := by decide +kernel
theorem wd_380 : (Cond.fieldLink "VoteRoll" 222 "VoteRoll$Odds" "boundLower" "I") ∈ gl := gl_at 380 (by decide +kernel) (by decide +kernel)
theorem dX11_terms_139 : decode cX11_terms 139 = .ok (.aload_n 0, 1) := by decide +kernel
theorem dX11_terms_140 : decode cX11_terms 140 = .ok (.getfield 64, 3) := by decide +kernel
theorem dX11_terms_143 : decode cX11_terms 143 = .ok (.iload 6, 2) := by decide +kernel
theorem dX11_terms_145 : decode cX11_terms 145 = .ok (.putfield 225, 3) := by decide +kernel
theorem wd_442 : (Cond.fieldLink "VoteRoll" 225 "VoteRoll$Persons" "once" "I") ∈ gl := gl_at 442 (by decide +kernel) (by decide +kernel)
theorem dX11_terms_148 : decode cX11_terms 148 = .ok (.aload_n 0, 1) := by decide +kernel
theorem dX11_terms_149 : decode cX11_terms 149 = .ok (.getfield 64, 3) := by decide +kernel
theorem dX11_terms_152 : decode cX11_terms 152 = .ok (.invokevirtual 134, 3) := by decide +kernel
theorem dX11_terms_155 : decode cX11_terms 155 = .ok (.aload_n 0, 1) := by decide +kernel
theorem dX11_terms_156 : decode cX11_terms 156 = .ok (.iconst 0, 1) := by decide +kernel
theorem dX11_terms_157 : decode cX11_terms 157 = .ok (.invokevirtual 140, 3) := by decide +kernel
theorem dX11_terms_160 : decode cX11_terms 160 = .ok (.ireturn, 1) := by decide +kernel
set_option maxHeartbeats 4000000 in
set_option maxRecDepth 100000 in
theorem c_terms (l : Launch) (D : va_G) (ct : Nat → ClassId) (h : Nat) (a1 : Int32) (a2 : Int32) (a3 : Int32) (a4 : Int32) (a5 : Int32) (a6 : Int32) (h_0 : Nat) (h_1 : Nat) (h_2 : Nat) (h_3 : Nat) (h_4 : Nat) (h_5 : Nat) (h_6 : Nat) (h_7 : Nat) (h_8 : Nat) (h_9 : Nat) (h_10 : Nat) (h_11 : Nat) (h_12 : Nat) (h_13 : Int32) (h_14 : Int32) (h_7_0 : Nat) (h_7_1 : Nat) (h_7_2 : Nat) (h_7_3 : Int32) (h_7_4 : Int32) (h_7_5 : Int32) (h_7_6 : Int32) (h_7_7 : Int32) (h_7_8 : Int64) (h_7_9 : Int64) (h_7_10 : Int32) (h_7_11 : Nat) (h_7_12 : Nat) (h_7_13 : Nat) (h_8_0 : Nat) (h_8_1 : Nat) (h_8_2 : Nat) (h_8_3 : Nat) (h_8_4 : Nat) (h_8_5 : Nat) (h_8_6 : Nat) (h_8_7 : Nat) (h_8_8 : Int32) (h_8_9 : Int32) (h_8_10 : Int32) (h_8_11 : Int32) (h_8_12 : Nat) (h_8_13 : Int32) (h_8_14 : Nat) (h_8_15 : Int32) (h_8_16 : Int32) (sz : Nat)  : Met l yX11_terms (wk yX11_terms cX11_terms 9 (some .int)) { frames := 1, cells := 0, slots := 0, locals := 22 } (va_Pc [.ref h, .int a1, .int a2, .int a3, .int a4, .int a5, .int a6] (Wd D [(h, .inr (11, [.ref h_0, .ref h_1, .ref h_2, .ref h_3, .ref h_4, .ref h_5, .ref h_6, .ref h_7, .ref h_8, .ref h_9, .ref h_10, .ref h_11, .ref h_12, .int h_13, .int h_14])), (h_7, .inr (7, [.ref h_7_0, .ref h_7_1, .ref h_7_2, .int h_7_3, .int h_7_4, .int h_7_5, .int h_7_6, .int h_7_7, .long h_7_8, .long h_7_9, .int h_7_10, .ref h_7_11, .ref h_7_12, .ref h_7_13])), (h_8, .inr (8, [.ref h_8_0, .ref h_8_1, .ref h_8_2, .ref h_8_3, .ref h_8_4, .ref h_8_5, .ref h_8_6, .ref h_8_7, .int h_8_8, .int h_8_9, .int h_8_10, .int h_8_11, .ref h_8_12, .int h_8_13, .ref h_8_14, .int h_8_15, .int h_8_16]))] ct sz)) (va_Qi (fun (r : Int32) (u : Unit) => r = sp_terms a1 a2 a3 a4 a5 a6) (fun _ _ => True) (va_A [(h, .inr (11, [.ref h_0, .ref h_1, .ref h_2, .ref h_3, .ref h_4, .ref h_5, .ref h_6, .ref h_7, .ref h_8, .ref h_9, .ref h_10, .ref h_11, .ref h_12, .int h_13, .int h_14])), (h_7, .inr (7, [.ref h_7_0, .ref h_7_1, .ref h_7_2, .int h_7_3, .int h_7_4, .int h_7_5, .int h_7_6, .int h_7_7, .long h_7_8, .long h_7_9, .int h_7_10, .ref h_7_11, .ref h_7_12, .ref h_7_13])), (h_8, .inr (8, [.ref h_8_0, .ref h_8_1, .ref h_8_2, .ref h_8_3, .ref h_8_4, .ref h_8_5, .ref h_8_6, .ref h_8_7, .int h_8_8, .int h_8_9, .int h_8_10, .int h_8_11, .ref h_8_12, .int h_8_13, .ref h_8_14, .int h_8_15, .int h_8_16]))] sz)) 0 0 (va_A [(h, .inr (11, [.ref h_0, .ref h_1, .ref h_2, .ref h_3, .ref h_4, .ref h_5, .ref h_6, .ref h_7, .ref h_8, .ref h_9, .ref h_10, .ref h_11, .ref h_12, .int h_13, .int h_14])), (h_7, .inr (7, [.ref h_7_0, .ref h_7_1, .ref h_7_2, .int h_7_3, .int h_7_4, .int h_7_5, .int h_7_6, .int h_7_7, .long h_7_8, .long h_7_9, .int h_7_10, .ref h_7_11, .ref h_7_12, .ref h_7_13])), (h_8, .inr (8, [.ref h_8_0, .ref h_8_1, .ref h_8_2, .ref h_8_3, .ref h_8_4, .ref h_8_5, .ref h_8_6, .ref h_8_7, .int h_8_8, .int h_8_9, .int h_8_10, .int h_8_11, .ref h_8_12, .int h_8_13, .ref h_8_14, .int h_8_15, .int h_8_16]))] sz) := by
  refine Met.ofW (cc := cX11_terms) (maxL := 9) (ret := (some .int)) (by decide) rfl ?_
  intro p e s m args below meth c s₁ B hml hv
  obtain ⟨rfl, hsz, hP, hKK, hD0⟩ := hv
  have hK := hKK.1
  have hx := B.exec
  have hb := B.bytes
  have hr := B.returns
  have hg : ∀ w ∈ gl, w.before _ s = true := fun w h => atoms_spec (ws := wk yX11_terms cX11_terms 9 (some .int)) B.pre w (List.mem_cons_of_mem _ h)
  have hown : s.vm.findClass RX11 = some m.cls := findClass_of_methodNamed B.named
  have hlocks := B.notSynchronized
  subst hsz
  have hD := hD0.self (sz := s.heap.size)
  generalize hAe : va_A [(h, .inr (11, [.ref h_0, .ref h_1, .ref h_2, .ref h_3, .ref h_4, .ref h_5, .ref h_6, .ref h_7, .ref h_8, .ref h_9, .ref h_10, .ref h_11, .ref h_12, .int h_13, .int h_14])), (h_7, .inr (7, [.ref h_7_0, .ref h_7_1, .ref h_7_2, .int h_7_3, .int h_7_4, .int h_7_5, .int h_7_6, .int h_7_7, .long h_7_8, .long h_7_9, .int h_7_10, .ref h_7_11, .ref h_7_12, .ref h_7_13])), (h_8, .inr (8, [.ref h_8_0, .ref h_8_1, .ref h_8_2, .ref h_8_3, .ref h_8_4, .ref h_8_5, .ref h_8_6, .ref h_8_7, .int h_8_8, .int h_8_9, .int h_8_10, .int h_8_11, .ref h_8_12, .int h_8_13, .ref h_8_14, .int h_8_15, .int h_8_16]))] s.heap.size = A at hD ⊢
  have hA : ∀ q : Nat, s.heap.size ≤ q → A q := fun q h => by rw [← hAe]; exact Or.inr h
  have hS : va_S A s.heap s.heap [] := va_S.rf
  have hl := lv_entry ([.ref h, .int a1, .int a2, .int a3, .int a4, .int a5, .int a6]) (n := 9) (Nat.le_of_ble_eq_true rfl)
  rw [lg_entry_eq]
  generalize (lg_sl ([.ref h, .int a1, .int a2, .int a3, .int a4, .int a5, .int a6]) ++ List.replicate (9 - (lg_sl ([.ref h, .int a1, .int a2, .int a3, .int a4, .int a5, .int a6])).length) Slot.unset).toArray = ls at hl ⊢
  have hl : lv_has ls 9 [(0, .ref h), (1, .int a1), (2, .int a2), (3, .int a3), (4, .int a4), (5, .int a5), (6, .int a6)] := hl
  refine lv_iload_n hx hb dX11_terms_0 rfl (lv_at hl 2 rfl) ?_
  refine lv_iconst (v := 1) hx hb dX11_terms_1 (by decide) ?_
  refine lv_sipush (v := 1000) hx hb dX11_terms_2 (by decide) ?_
  have hPc := hP.sub (ws' := []) [] rfl
  refine z_calli (va_runS (As := [.int a2, .int 1, .int 1000]) (rest := []) ⟨hx, hb, hml, hown, hg⟩ (c_within l D ct a2 1 1000 ) (va_cwS 3 hg (gd_S wd_959 wd_917 wd_107 wd_918) rfl rfl rfl (by decide +kernel) ⟨Nat.le_of_ble_eq_true rfl, Nat.le_of_ble_eq_true rfl⟩) (Wr_S hPc hKK) rfl rfl hl.1 rfl (lv_room (Nat.le_of_ble_eq_true rfl)) dX11_terms_5 ⟨Nat.le_of_ble_eq_true rfl, Nat.le_of_ble_eq_true rfl⟩) (fun r_1 hw_1 => ?_)
  subst hw_1
  refine lv_if_eq (tgt := 26) hx hb dX11_terms_8 (by decide) (fun c_2 => ?_) (fun c_2 => ?_)
  · refine lv_iconst (v := 0) hx hb dX11_terms_26 (by decide) ?_
    refine lv_istore (lv' := [(7, .int 0), (0, .ref h), (1, .int a1), (2, .int a2), (3, .int a3), (4, .int a4), (5, .int a5), (6, .int a6)]) hx hb dX11_terms_27 hl (by decide) rfl (fun ls hl => ?_)
    refine lv_iload hx hb dX11_terms_29 (lv_at hl 5 rfl) ?_
    refine lv_iconst (v := 1) hx hb dX11_terms_31 (by decide) ?_
    refine lv_sipush (v := 1000) hx hb dX11_terms_32 (by decide) ?_
    have hPc := hP.sub (ws' := []) [] rfl
    refine z_calli (va_runS (As := [.int a4, .int 1, .int 1000]) (rest := []) ⟨hx, hb, hml, hown, hg⟩ (c_within l D ct a4 1 1000 ) (va_cwS 3 hg (gd_S wd_959 wd_917 wd_107 wd_918) rfl rfl rfl (by decide +kernel) ⟨Nat.le_of_ble_eq_true rfl, Nat.le_of_ble_eq_true rfl⟩) (Wr_S hPc hKK) rfl rfl hl.1 rfl (lv_room (Nat.le_of_ble_eq_true rfl)) dX11_terms_35 ⟨Nat.le_of_ble_eq_true rfl, Nat.le_of_ble_eq_true rfl⟩) (fun r_3 hw_3 => ?_)
    subst hw_3
    refine lv_if_eq (tgt := 57) hx hb dX11_terms_38 (by decide) (fun c_4 => ?_) (fun c_4 => ?_)
    · refine lv_iconst (v := 0) hx hb dX11_terms_57 (by decide) ?_
      refine lv_istore (lv' := [(8, .int 0), (7, .int 0), (0, .ref h), (1, .int a1), (2, .int a2), (3, .int a3), (4, .int a4), (5, .int a5), (6, .int a6)]) hx hb dX11_terms_58 hl (by decide) rfl (fun ls hl => ?_)
      refine lv_iload_n hx hb dX11_terms_60 rfl (lv_at hl 3 rfl) ?_
      refine lv_iconst (v := 0) hx hb dX11_terms_61 (by decide) ?_
      refine lv_iconst (v := 3) hx hb dX11_terms_62 (by decide) ?_
      have hPc := hP.sub (ws' := []) [] rfl
      refine z_calli (va_runS (As := [.int a1, .int 0, .int 3]) (rest := []) ⟨hx, hb, hml, hown, hg⟩ (c_within l D ct a1 0 3 ) (va_cwS 3 hg (gd_S wd_959 wd_917 wd_107 wd_918) rfl rfl rfl (by decide +kernel) ⟨Nat.le_of_ble_eq_true rfl, Nat.le_of_ble_eq_true rfl⟩) (Wr_S hPc hKK) rfl rfl hl.1 rfl (lv_room (Nat.le_of_ble_eq_true rfl)) dX11_terms_63 ⟨Nat.le_of_ble_eq_true rfl, Nat.le_of_ble_eq_true rfl⟩) (fun r_5 hw_5 => ?_)
      subst hw_5
      refine lv_if_eq (tgt := 91) hx hb dX11_terms_66 (by decide) (fun c_6 => ?_) (fun c_6 => ?_)
      · refine lv_aload_n hx hb dX11_terms_91 rfl (lv_at hl 2 rfl) ?_
        refine lv_iconst (v := (-1)) hx hb dX11_terms_92 (by decide) ?_
        have hPc := hP.sub (ws' := [(h, .inr (11, [.ref h_0, .ref h_1, .ref h_2, .ref h_3, .ref h_4, .ref h_5, .ref h_6, .ref h_7, .ref h_8, .ref h_9, .ref h_10, .ref h_11, .ref h_12, .int h_13, .int h_14]))]) [0] rfl
        have hDc := hD.sub (ws' := [(h, .inr (11, [.ref h_0, .ref h_1, .ref h_2, .ref h_3, .ref h_4, .ref h_5, .ref h_6, .ref h_7, .ref h_8, .ref h_9, .ref h_10, .ref h_11, .ref h_12, .int h_13, .int h_14]))]) [0] (by decide) rfl
        have hFc := va_free (wc := [(h, .inr (11, [.ref h_0, .ref h_1, .ref h_2, .ref h_3, .ref h_4, .ref h_5, .ref h_6, .ref h_7, .ref h_8, .ref h_9, .ref h_10, .ref h_11, .ref h_12, .int h_13, .int h_14]))]) hD hS hA [0] rfl
        refine va_calli (va_runV (As := [.int (-1)]) (rest := []) ⟨hx, hb, hml, hown, hg⟩ (c_refuse l D ct h (-1) h_0 h_1 h_2 h_3 h_4 h_5 h_6 h_7 h_8 h_9 h_10 h_11 h_12 h_13 h_14 s.heap.size ) (cwV 1 hg (gd_V wd_778 wd_780 wd_3 wd_107 wd_781) rfl rfl rfl (by decide +kernel) ⟨Nat.le_of_ble_eq_true rfl, Nat.le_of_ble_eq_true rfl⟩) (Wd_V hPc hKK hDc (va_recv hK hPc (ci := 11) (q0 := 0) rfl rfl)) rfl rfl hl.1 rfl (lv_room (Nat.le_of_ble_eq_true rfl)) dX11_terms_93 ⟨Nat.le_of_ble_eq_true rfl, Nat.le_of_ble_eq_true rfl⟩) hS (fun q _ h => hFc q h) hFc (fun r_7 u_7 t_7 H1 locs ht_7 hvm_7 hw_7 hB_7 hz_7 hk_7 hS => ?_)
        obtain ⟨hP, hD⟩ := va_join (wr := [(h_7, .inr (7, [.ref h_7_0, .ref h_7_1, .ref h_7_2, .int h_7_3, .int h_7_4, .int h_7_5, .int h_7_6, .int h_7_7, .long h_7_8, .long h_7_9, .int h_7_10, .ref h_7_11, .ref h_7_12, .ref h_7_13])), (h_8, .inr (8, [.ref h_8_0, .ref h_8_1, .ref h_8_2, .ref h_8_3, .ref h_8_4, .ref h_8_5, .ref h_8_6, .ref h_8_7, .int h_8_8, .int h_8_9, .int h_8_10, .int h_8_11, .ref h_8_12, .int h_8_13, .ref h_8_14, .int h_8_15, .int h_8_16]))]) (w1 := []) hP hD [0] [1, 2] rfl rfl (by decide) (by decide) hk_7 hFc (fun k q h => by simp at h) ⟨fun i j p q h => by simp at h, fun k q h => by simp at h⟩
        generalize H1 = H at hP hS ⊢
        have hP : va_P D vwCl [(h_7, .inr (7, [.ref h_7_0, .ref h_7_1, .ref h_7_2, .int h_7_3, .int h_7_4, .int h_7_5, .int h_7_6, .int h_7_7, .long h_7_8, .long h_7_9, .int h_7_10, .ref h_7_11, .ref h_7_12, .ref h_7_13])), (h_8, .inr (8, [.ref h_8_0, .ref h_8_1, .ref h_8_2, .ref h_8_3, .ref h_8_4, .ref h_8_5, .ref h_8_6, .ref h_8_7, .int h_8_8, .int h_8_9, .int h_8_10, .int h_8_11, .ref h_8_12, .int h_8_13, .ref h_8_14, .int h_8_15, .int h_8_16]))] H := hP
        have hD : va_D A [(h_7, .inr (7, [.ref h_7_0, .ref h_7_1, .ref h_7_2, .int h_7_3, .int h_7_4, .int h_7_5, .int h_7_6, .int h_7_7, .long h_7_8, .long h_7_9, .int h_7_10, .ref h_7_11, .ref h_7_12, .ref h_7_13])), (h_8, .inr (8, [.ref h_8_0, .ref h_8_1, .ref h_8_2, .ref h_8_3, .ref h_8_4, .ref h_8_5, .ref h_8_6, .ref h_8_7, .int h_8_8, .int h_8_9, .int h_8_10, .int h_8_11, .ref h_8_12, .int h_8_13, .ref h_8_14, .int h_8_15, .int h_8_16]))] := hD
        subst hw_7
        exact W.iret (v := (-1)) hx hb hr (fun t ht hW => ⟨⟨(-1), (), rfl, (by simp [sp_terms, c_2, c_4, c_6]), trivial⟩, hS.F ht⟩) hS.2.2 dX11_terms_96
      · refine lv_iload hx hb dX11_terms_69 (lv_at hl 1 rfl) ?_
        refine lv_if_eq (tgt := 91) hx hb dX11_terms_71 (by decide) (fun _ => ?_) (fun h => absurd (by decide) h)
        refine lv_aload_n hx hb dX11_terms_91 rfl (lv_at hl 2 rfl) ?_
        refine lv_iconst (v := (-1)) hx hb dX11_terms_92 (by decide) ?_
        have hPc := hP.sub (ws' := [(h, .inr (11, [.ref h_0, .ref h_1, .ref h_2, .ref h_3, .ref h_4, .ref h_5, .ref h_6, .ref h_7, .ref h_8, .ref h_9, .ref h_10, .ref h_11, .ref h_12, .int h_13, .int h_14]))]) [0] rfl
        have hDc := hD.sub (ws' := [(h, .inr (11, [.ref h_0, .ref h_1, .ref h_2, .ref h_3, .ref h_4, .ref h_5, .ref h_6, .ref h_7, .ref h_8, .ref h_9, .ref h_10, .ref h_11, .ref h_12, .int h_13, .int h_14]))]) [0] (by decide) rfl
        have hFc := va_free (wc := [(h, .inr (11, [.ref h_0, .ref h_1, .ref h_2, .ref h_3, .ref h_4, .ref h_5, .ref h_6, .ref h_7, .ref h_8, .ref h_9, .ref h_10, .ref h_11, .ref h_12, .int h_13, .int h_14]))]) hD hS hA [0] rfl
        refine va_calli (va_runV (As := [.int (-1)]) (rest := []) ⟨hx, hb, hml, hown, hg⟩ (c_refuse l D ct h (-1) h_0 h_1 h_2 h_3 h_4 h_5 h_6 h_7 h_8 h_9 h_10 h_11 h_12 h_13 h_14 s.heap.size ) (cwV 1 hg (gd_V wd_778 wd_780 wd_3 wd_107 wd_781) rfl rfl rfl (by decide +kernel) ⟨Nat.le_of_ble_eq_true rfl, Nat.le_of_ble_eq_true rfl⟩) (Wd_V hPc hKK hDc (va_recv hK hPc (ci := 11) (q0 := 0) rfl rfl)) rfl rfl hl.1 rfl (lv_room (Nat.le_of_ble_eq_true rfl)) dX11_terms_93 ⟨Nat.le_of_ble_eq_true rfl, Nat.le_of_ble_eq_true rfl⟩) hS (fun q _ h => hFc q h) hFc (fun r_9 u_9 t_9 H1 locs ht_9 hvm_9 hw_9 hB_9 hz_9 hk_9 hS => ?_)
        obtain ⟨hP, hD⟩ := va_join (wr := [(h_7, .inr (7, [.ref h_7_0, .ref h_7_1, .ref h_7_2, .int h_7_3, .int h_7_4, .int h_7_5, .int h_7_6, .int h_7_7, .long h_7_8, .long h_7_9, .int h_7_10, .ref h_7_11, .ref h_7_12, .ref h_7_13])), (h_8, .inr (8, [.ref h_8_0, .ref h_8_1, .ref h_8_2, .ref h_8_3, .ref h_8_4, .ref h_8_5, .ref h_8_6, .ref h_8_7, .int h_8_8, .int h_8_9, .int h_8_10, .int h_8_11, .ref h_8_12, .int h_8_13, .ref h_8_14, .int h_8_15, .int h_8_16]))]) (w1 := []) hP hD [0] [1, 2] rfl rfl (by decide) (by decide) hk_9 hFc (fun k q h => by simp at h) ⟨fun i j p q h => by simp at h, fun k q h => by simp at h⟩
        generalize H1 = H at hP hS ⊢
        have hP : va_P D vwCl [(h_7, .inr (7, [.ref h_7_0, .ref h_7_1, .ref h_7_2, .int h_7_3, .int h_7_4, .int h_7_5, .int h_7_6, .int h_7_7, .long h_7_8, .long h_7_9, .int h_7_10, .ref h_7_11, .ref h_7_12, .ref h_7_13])), (h_8, .inr (8, [.ref h_8_0, .ref h_8_1, .ref h_8_2, .ref h_8_3, .ref h_8_4, .ref h_8_5, .ref h_8_6, .ref h_8_7, .int h_8_8, .int h_8_9, .int h_8_10, .int h_8_11, .ref h_8_12, .int h_8_13, .ref h_8_14, .int h_8_15, .int h_8_16]))] H := hP
        have hD : va_D A [(h_7, .inr (7, [.ref h_7_0, .ref h_7_1, .ref h_7_2, .int h_7_3, .int h_7_4, .int h_7_5, .int h_7_6, .int h_7_7, .long h_7_8, .long h_7_9, .int h_7_10, .ref h_7_11, .ref h_7_12, .ref h_7_13])), (h_8, .inr (8, [.ref h_8_0, .ref h_8_1, .ref h_8_2, .ref h_8_3, .ref h_8_4, .ref h_8_5, .ref h_8_6, .ref h_8_7, .int h_8_8, .int h_8_9, .int h_8_10, .int h_8_11, .ref h_8_12, .int h_8_13, .ref h_8_14, .int h_8_15, .int h_8_16]))] := hD
        subst hw_9
        exact W.iret (v := (-1)) hx hb hr (fun t ht hW => ⟨⟨(-1), (), rfl, (by simp [sp_terms, c_2, c_4, c_6]), trivial⟩, hS.F ht⟩) hS.2.2 dX11_terms_96
    · refine lv_iload hx hb dX11_terms_41 (lv_at hl 6 rfl) ?_
      refine lv_iconst (v := 1) hx hb dX11_terms_43 (by decide) ?_
      refine lv_sipush (v := 1000) hx hb dX11_terms_44 (by decide) ?_
      have hPc := hP.sub (ws' := []) [] rfl
      refine z_calli (va_runS (As := [.int a5, .int 1, .int 1000]) (rest := []) ⟨hx, hb, hml, hown, hg⟩ (c_within l D ct a5 1 1000 ) (va_cwS 3 hg (gd_S wd_959 wd_917 wd_107 wd_918) rfl rfl rfl (by decide +kernel) ⟨Nat.le_of_ble_eq_true rfl, Nat.le_of_ble_eq_true rfl⟩) (Wr_S hPc hKK) rfl rfl hl.1 rfl (lv_room (Nat.le_of_ble_eq_true rfl)) dX11_terms_47 ⟨Nat.le_of_ble_eq_true rfl, Nat.le_of_ble_eq_true rfl⟩) (fun r_10 hw_10 => ?_)
      subst hw_10
      refine lv_if_eq (tgt := 57) hx hb dX11_terms_50 (by decide) (fun c_11 => ?_) (fun c_11 => ?_)
      · refine lv_iconst (v := 0) hx hb dX11_terms_57 (by decide) ?_
        refine lv_istore (lv' := [(8, .int 0), (7, .int 0), (0, .ref h), (1, .int a1), (2, .int a2), (3, .int a3), (4, .int a4), (5, .int a5), (6, .int a6)]) hx hb dX11_terms_58 hl (by decide) rfl (fun ls hl => ?_)
        refine lv_iload_n hx hb dX11_terms_60 rfl (lv_at hl 3 rfl) ?_
        refine lv_iconst (v := 0) hx hb dX11_terms_61 (by decide) ?_
        refine lv_iconst (v := 3) hx hb dX11_terms_62 (by decide) ?_
        have hPc := hP.sub (ws' := []) [] rfl
        refine z_calli (va_runS (As := [.int a1, .int 0, .int 3]) (rest := []) ⟨hx, hb, hml, hown, hg⟩ (c_within l D ct a1 0 3 ) (va_cwS 3 hg (gd_S wd_959 wd_917 wd_107 wd_918) rfl rfl rfl (by decide +kernel) ⟨Nat.le_of_ble_eq_true rfl, Nat.le_of_ble_eq_true rfl⟩) (Wr_S hPc hKK) rfl rfl hl.1 rfl (lv_room (Nat.le_of_ble_eq_true rfl)) dX11_terms_63 ⟨Nat.le_of_ble_eq_true rfl, Nat.le_of_ble_eq_true rfl⟩) (fun r_12 hw_12 => ?_)
        subst hw_12
        refine lv_if_eq (tgt := 91) hx hb dX11_terms_66 (by decide) (fun c_13 => ?_) (fun c_13 => ?_)
        · refine lv_aload_n hx hb dX11_terms_91 rfl (lv_at hl 2 rfl) ?_
          refine lv_iconst (v := (-1)) hx hb dX11_terms_92 (by decide) ?_
          have hPc := hP.sub (ws' := [(h, .inr (11, [.ref h_0, .ref h_1, .ref h_2, .ref h_3, .ref h_4, .ref h_5, .ref h_6, .ref h_7, .ref h_8, .ref h_9, .ref h_10, .ref h_11, .ref h_12, .int h_13, .int h_14]))]) [0] rfl
          have hDc := hD.sub (ws' := [(h, .inr (11, [.ref h_0, .ref h_1, .ref h_2, .ref h_3, .ref h_4, .ref h_5, .ref h_6, .ref h_7, .ref h_8, .ref h_9, .ref h_10, .ref h_11, .ref h_12, .int h_13, .int h_14]))]) [0] (by decide) rfl
          have hFc := va_free (wc := [(h, .inr (11, [.ref h_0, .ref h_1, .ref h_2, .ref h_3, .ref h_4, .ref h_5, .ref h_6, .ref h_7, .ref h_8, .ref h_9, .ref h_10, .ref h_11, .ref h_12, .int h_13, .int h_14]))]) hD hS hA [0] rfl
          refine va_calli (va_runV (As := [.int (-1)]) (rest := []) ⟨hx, hb, hml, hown, hg⟩ (c_refuse l D ct h (-1) h_0 h_1 h_2 h_3 h_4 h_5 h_6 h_7 h_8 h_9 h_10 h_11 h_12 h_13 h_14 s.heap.size ) (cwV 1 hg (gd_V wd_778 wd_780 wd_3 wd_107 wd_781) rfl rfl rfl (by decide +kernel) ⟨Nat.le_of_ble_eq_true rfl, Nat.le_of_ble_eq_true rfl⟩) (Wd_V hPc hKK hDc (va_recv hK hPc (ci := 11) (q0 := 0) rfl rfl)) rfl rfl hl.1 rfl (lv_room (Nat.le_of_ble_eq_true rfl)) dX11_terms_93 ⟨Nat.le_of_ble_eq_true rfl, Nat.le_of_ble_eq_true rfl⟩) hS (fun q _ h => hFc q h) hFc (fun r_14 u_14 t_14 H1 locs ht_14 hvm_14 hw_14 hB_14 hz_14 hk_14 hS => ?_)
          obtain ⟨hP, hD⟩ := va_join (wr := [(h_7, .inr (7, [.ref h_7_0, .ref h_7_1, .ref h_7_2, .int h_7_3, .int h_7_4, .int h_7_5, .int h_7_6, .int h_7_7, .long h_7_8, .long h_7_9, .int h_7_10, .ref h_7_11, .ref h_7_12, .ref h_7_13])), (h_8, .inr (8, [.ref h_8_0, .ref h_8_1, .ref h_8_2, .ref h_8_3, .ref h_8_4, .ref h_8_5, .ref h_8_6, .ref h_8_7, .int h_8_8, .int h_8_9, .int h_8_10, .int h_8_11, .ref h_8_12, .int h_8_13, .ref h_8_14, .int h_8_15, .int h_8_16]))]) (w1 := []) hP hD [0] [1, 2] rfl rfl (by decide) (by decide) hk_14 hFc (fun k q h => by simp at h) ⟨fun i j p q h => by simp at h, fun k q h => by simp at h⟩
          generalize H1 = H at hP hS ⊢
          have hP : va_P D vwCl [(h_7, .inr (7, [.ref h_7_0, .ref h_7_1, .ref h_7_2, .int h_7_3, .int h_7_4, .int h_7_5, .int h_7_6, .int h_7_7, .long h_7_8, .long h_7_9, .int h_7_10, .ref h_7_11, .ref h_7_12, .ref h_7_13])), (h_8, .inr (8, [.ref h_8_0, .ref h_8_1, .ref h_8_2, .ref h_8_3, .ref h_8_4, .ref h_8_5, .ref h_8_6, .ref h_8_7, .int h_8_8, .int h_8_9, .int h_8_10, .int h_8_11, .ref h_8_12, .int h_8_13, .ref h_8_14, .int h_8_15, .int h_8_16]))] H := hP
          have hD : va_D A [(h_7, .inr (7, [.ref h_7_0, .ref h_7_1, .ref h_7_2, .int h_7_3, .int h_7_4, .int h_7_5, .int h_7_6, .int h_7_7, .long h_7_8, .long h_7_9, .int h_7_10, .ref h_7_11, .ref h_7_12, .ref h_7_13])), (h_8, .inr (8, [.ref h_8_0, .ref h_8_1, .ref h_8_2, .ref h_8_3, .ref h_8_4, .ref h_8_5, .ref h_8_6, .ref h_8_7, .int h_8_8, .int h_8_9, .int h_8_10, .int h_8_11, .ref h_8_12, .int h_8_13, .ref h_8_14, .int h_8_15, .int h_8_16]))] := hD
          subst hw_14
          exact W.iret (v := (-1)) hx hb hr (fun t ht hW => ⟨⟨(-1), (), rfl, (by simp [sp_terms, c_2, c_4, c_11, c_13]), trivial⟩, hS.F ht⟩) hS.2.2 dX11_terms_96
        · refine lv_iload hx hb dX11_terms_69 (lv_at hl 1 rfl) ?_
          refine lv_if_eq (tgt := 91) hx hb dX11_terms_71 (by decide) (fun _ => ?_) (fun h => absurd (by decide) h)
          refine lv_aload_n hx hb dX11_terms_91 rfl (lv_at hl 2 rfl) ?_
          refine lv_iconst (v := (-1)) hx hb dX11_terms_92 (by decide) ?_
          have hPc := hP.sub (ws' := [(h, .inr (11, [.ref h_0, .ref h_1, .ref h_2, .ref h_3, .ref h_4, .ref h_5, .ref h_6, .ref h_7, .ref h_8, .ref h_9, .ref h_10, .ref h_11, .ref h_12, .int h_13, .int h_14]))]) [0] rfl
          have hDc := hD.sub (ws' := [(h, .inr (11, [.ref h_0, .ref h_1, .ref h_2, .ref h_3, .ref h_4, .ref h_5, .ref h_6, .ref h_7, .ref h_8, .ref h_9, .ref h_10, .ref h_11, .ref h_12, .int h_13, .int h_14]))]) [0] (by decide) rfl
          have hFc := va_free (wc := [(h, .inr (11, [.ref h_0, .ref h_1, .ref h_2, .ref h_3, .ref h_4, .ref h_5, .ref h_6, .ref h_7, .ref h_8, .ref h_9, .ref h_10, .ref h_11, .ref h_12, .int h_13, .int h_14]))]) hD hS hA [0] rfl
          refine va_calli (va_runV (As := [.int (-1)]) (rest := []) ⟨hx, hb, hml, hown, hg⟩ (c_refuse l D ct h (-1) h_0 h_1 h_2 h_3 h_4 h_5 h_6 h_7 h_8 h_9 h_10 h_11 h_12 h_13 h_14 s.heap.size ) (cwV 1 hg (gd_V wd_778 wd_780 wd_3 wd_107 wd_781) rfl rfl rfl (by decide +kernel) ⟨Nat.le_of_ble_eq_true rfl, Nat.le_of_ble_eq_true rfl⟩) (Wd_V hPc hKK hDc (va_recv hK hPc (ci := 11) (q0 := 0) rfl rfl)) rfl rfl hl.1 rfl (lv_room (Nat.le_of_ble_eq_true rfl)) dX11_terms_93 ⟨Nat.le_of_ble_eq_true rfl, Nat.le_of_ble_eq_true rfl⟩) hS (fun q _ h => hFc q h) hFc (fun r_16 u_16 t_16 H1 locs ht_16 hvm_16 hw_16 hB_16 hz_16 hk_16 hS => ?_)
          obtain ⟨hP, hD⟩ := va_join (wr := [(h_7, .inr (7, [.ref h_7_0, .ref h_7_1, .ref h_7_2, .int h_7_3, .int h_7_4, .int h_7_5, .int h_7_6, .int h_7_7, .long h_7_8, .long h_7_9, .int h_7_10, .ref h_7_11, .ref h_7_12, .ref h_7_13])), (h_8, .inr (8, [.ref h_8_0, .ref h_8_1, .ref h_8_2, .ref h_8_3, .ref h_8_4, .ref h_8_5, .ref h_8_6, .ref h_8_7, .int h_8_8, .int h_8_9, .int h_8_10, .int h_8_11, .ref h_8_12, .int h_8_13, .ref h_8_14, .int h_8_15, .int h_8_16]))]) (w1 := []) hP hD [0] [1, 2] rfl rfl (by decide) (by decide) hk_16 hFc (fun k q h => by simp at h) ⟨fun i j p q h => by simp at h, fun k q h => by simp at h⟩
          generalize H1 = H at hP hS ⊢
          have hP : va_P D vwCl [(h_7, .inr (7, [.ref h_7_0, .ref h_7_1, .ref h_7_2, .int h_7_3, .int h_7_4, .int h_7_5, .int h_7_6, .int h_7_7, .long h_7_8, .long h_7_9, .int h_7_10, .ref h_7_11, .ref h_7_12, .ref h_7_13])), (h_8, .inr (8, [.ref h_8_0, .ref h_8_1, .ref h_8_2, .ref h_8_3, .ref h_8_4, .ref h_8_5, .ref h_8_6, .ref h_8_7, .int h_8_8, .int h_8_9, .int h_8_10, .int h_8_11, .ref h_8_12, .int h_8_13, .ref h_8_14, .int h_8_15, .int h_8_16]))] H := hP
          have hD : va_D A [(h_7, .inr (7, [.ref h_7_0, .ref h_7_1, .ref h_7_2, .int h_7_3, .int h_7_4, .int h_7_5, .int h_7_6, .int h_7_7, .long h_7_8, .long h_7_9, .int h_7_10, .ref h_7_11, .ref h_7_12, .ref h_7_13])), (h_8, .inr (8, [.ref h_8_0, .ref h_8_1, .ref h_8_2, .ref h_8_3, .ref h_8_4, .ref h_8_5, .ref h_8_6, .ref h_8_7, .int h_8_8, .int h_8_9, .int h_8_10, .int h_8_11, .ref h_8_12, .int h_8_13, .ref h_8_14, .int h_8_15, .int h_8_16]))] := hD
          subst hw_16
          exact W.iret (v := (-1)) hx hb hr (fun t ht hW => ⟨⟨(-1), (), rfl, (by simp [sp_terms, c_2, c_4, c_11, c_13]), trivial⟩, hS.F ht⟩) hS.2.2 dX11_terms_96
      · refine lv_iconst (v := 1) hx hb dX11_terms_53 (by decide) ?_
        refine lv_goto (tgt := 58) hx hb dX11_terms_54 (by decide) ?_
        refine lv_istore (lv' := [(8, .int 1), (7, .int 0), (0, .ref h), (1, .int a1), (2, .int a2), (3, .int a3), (4, .int a4), (5, .int a5), (6, .int a6)]) hx hb dX11_terms_58 hl (by decide) rfl (fun ls hl => ?_)
        refine lv_iload_n hx hb dX11_terms_60 rfl (lv_at hl 3 rfl) ?_
        refine lv_iconst (v := 0) hx hb dX11_terms_61 (by decide) ?_
        refine lv_iconst (v := 3) hx hb dX11_terms_62 (by decide) ?_
        have hPc := hP.sub (ws' := []) [] rfl
        refine z_calli (va_runS (As := [.int a1, .int 0, .int 3]) (rest := []) ⟨hx, hb, hml, hown, hg⟩ (c_within l D ct a1 0 3 ) (va_cwS 3 hg (gd_S wd_959 wd_917 wd_107 wd_918) rfl rfl rfl (by decide +kernel) ⟨Nat.le_of_ble_eq_true rfl, Nat.le_of_ble_eq_true rfl⟩) (Wr_S hPc hKK) rfl rfl hl.1 rfl (lv_room (Nat.le_of_ble_eq_true rfl)) dX11_terms_63 ⟨Nat.le_of_ble_eq_true rfl, Nat.le_of_ble_eq_true rfl⟩) (fun r_17 hw_17 => ?_)
        subst hw_17
        refine lv_if_eq (tgt := 91) hx hb dX11_terms_66 (by decide) (fun c_18 => ?_) (fun c_18 => ?_)
        · refine lv_aload_n hx hb dX11_terms_91 rfl (lv_at hl 2 rfl) ?_
          refine lv_iconst (v := (-1)) hx hb dX11_terms_92 (by decide) ?_
          have hPc := hP.sub (ws' := [(h, .inr (11, [.ref h_0, .ref h_1, .ref h_2, .ref h_3, .ref h_4, .ref h_5, .ref h_6, .ref h_7, .ref h_8, .ref h_9, .ref h_10, .ref h_11, .ref h_12, .int h_13, .int h_14]))]) [0] rfl
          have hDc := hD.sub (ws' := [(h, .inr (11, [.ref h_0, .ref h_1, .ref h_2, .ref h_3, .ref h_4, .ref h_5, .ref h_6, .ref h_7, .ref h_8, .ref h_9, .ref h_10, .ref h_11, .ref h_12, .int h_13, .int h_14]))]) [0] (by decide) rfl
          have hFc := va_free (wc := [(h, .inr (11, [.ref h_0, .ref h_1, .ref h_2, .ref h_3, .ref h_4, .ref h_5, .ref h_6, .ref h_7, .ref h_8, .ref h_9, .ref h_10, .ref h_11, .ref h_12, .int h_13, .int h_14]))]) hD hS hA [0] rfl
          refine va_calli (va_runV (As := [.int (-1)]) (rest := []) ⟨hx, hb, hml, hown, hg⟩ (c_refuse l D ct h (-1) h_0 h_1 h_2 h_3 h_4 h_5 h_6 h_7 h_8 h_9 h_10 h_11 h_12 h_13 h_14 s.heap.size ) (cwV 1 hg (gd_V wd_778 wd_780 wd_3 wd_107 wd_781) rfl rfl rfl (by decide +kernel) ⟨Nat.le_of_ble_eq_true rfl, Nat.le_of_ble_eq_true rfl⟩) (Wd_V hPc hKK hDc (va_recv hK hPc (ci := 11) (q0 := 0) rfl rfl)) rfl rfl hl.1 rfl (lv_room (Nat.le_of_ble_eq_true rfl)) dX11_terms_93 ⟨Nat.le_of_ble_eq_true rfl, Nat.le_of_ble_eq_true rfl⟩) hS (fun q _ h => hFc q h) hFc (fun r_19 u_19 t_19 H1 locs ht_19 hvm_19 hw_19 hB_19 hz_19 hk_19 hS => ?_)
          obtain ⟨hP, hD⟩ := va_join (wr := [(h_7, .inr (7, [.ref h_7_0, .ref h_7_1, .ref h_7_2, .int h_7_3, .int h_7_4, .int h_7_5, .int h_7_6, .int h_7_7, .long h_7_8, .long h_7_9, .int h_7_10, .ref h_7_11, .ref h_7_12, .ref h_7_13])), (h_8, .inr (8, [.ref h_8_0, .ref h_8_1, .ref h_8_2, .ref h_8_3, .ref h_8_4, .ref h_8_5, .ref h_8_6, .ref h_8_7, .int h_8_8, .int h_8_9, .int h_8_10, .int h_8_11, .ref h_8_12, .int h_8_13, .ref h_8_14, .int h_8_15, .int h_8_16]))]) (w1 := []) hP hD [0] [1, 2] rfl rfl (by decide) (by decide) hk_19 hFc (fun k q h => by simp at h) ⟨fun i j p q h => by simp at h, fun k q h => by simp at h⟩
          generalize H1 = H at hP hS ⊢
          have hP : va_P D vwCl [(h_7, .inr (7, [.ref h_7_0, .ref h_7_1, .ref h_7_2, .int h_7_3, .int h_7_4, .int h_7_5, .int h_7_6, .int h_7_7, .long h_7_8, .long h_7_9, .int h_7_10, .ref h_7_11, .ref h_7_12, .ref h_7_13])), (h_8, .inr (8, [.ref h_8_0, .ref h_8_1, .ref h_8_2, .ref h_8_3, .ref h_8_4, .ref h_8_5, .ref h_8_6, .ref h_8_7, .int h_8_8, .int h_8_9, .int h_8_10, .int h_8_11, .ref h_8_12, .int h_8_13, .ref h_8_14, .int h_8_15, .int h_8_16]))] H := hP
          have hD : va_D A [(h_7, .inr (7, [.ref h_7_0, .ref h_7_1, .ref h_7_2, .int h_7_3, .int h_7_4, .int h_7_5, .int h_7_6, .int h_7_7, .long h_7_8, .long h_7_9, .int h_7_10, .ref h_7_11, .ref h_7_12, .ref h_7_13])), (h_8, .inr (8, [.ref h_8_0, .ref h_8_1, .ref h_8_2, .ref h_8_3, .ref h_8_4, .ref h_8_5, .ref h_8_6, .ref h_8_7, .int h_8_8, .int h_8_9, .int h_8_10, .int h_8_11, .ref h_8_12, .int h_8_13, .ref h_8_14, .int h_8_15, .int h_8_16]))] := hD
          subst hw_19
          exact W.iret (v := (-1)) hx hb hr (fun t ht hW => ⟨⟨(-1), (), rfl, (by simp [sp_terms, c_2, c_4, c_11, c_18]), trivial⟩, hS.F ht⟩) hS.2.2 dX11_terms_96
        · refine lv_iload hx hb dX11_terms_69 (lv_at hl 1 rfl) ?_
          refine lv_if_eq (tgt := 91) hx hb dX11_terms_71 (by decide) (fun _ => ?_) (fun h => absurd (by decide) h)
          refine lv_aload_n hx hb dX11_terms_91 rfl (lv_at hl 2 rfl) ?_
          refine lv_iconst (v := (-1)) hx hb dX11_terms_92 (by decide) ?_
          have hPc := hP.sub (ws' := [(h, .inr (11, [.ref h_0, .ref h_1, .ref h_2, .ref h_3, .ref h_4, .ref h_5, .ref h_6, .ref h_7, .ref h_8, .ref h_9, .ref h_10, .ref h_11, .ref h_12, .int h_13, .int h_14]))]) [0] rfl
          have hDc := hD.sub (ws' := [(h, .inr (11, [.ref h_0, .ref h_1, .ref h_2, .ref h_3, .ref h_4, .ref h_5, .ref h_6, .ref h_7, .ref h_8, .ref h_9, .ref h_10, .ref h_11, .ref h_12, .int h_13, .int h_14]))]) [0] (by decide) rfl
          have hFc := va_free (wc := [(h, .inr (11, [.ref h_0, .ref h_1, .ref h_2, .ref h_3, .ref h_4, .ref h_5, .ref h_6, .ref h_7, .ref h_8, .ref h_9, .ref h_10, .ref h_11, .ref h_12, .int h_13, .int h_14]))]) hD hS hA [0] rfl
          refine va_calli (va_runV (As := [.int (-1)]) (rest := []) ⟨hx, hb, hml, hown, hg⟩ (c_refuse l D ct h (-1) h_0 h_1 h_2 h_3 h_4 h_5 h_6 h_7 h_8 h_9 h_10 h_11 h_12 h_13 h_14 s.heap.size ) (cwV 1 hg (gd_V wd_778 wd_780 wd_3 wd_107 wd_781) rfl rfl rfl (by decide +kernel) ⟨Nat.le_of_ble_eq_true rfl, Nat.le_of_ble_eq_true rfl⟩) (Wd_V hPc hKK hDc (va_recv hK hPc (ci := 11) (q0 := 0) rfl rfl)) rfl rfl hl.1 rfl (lv_room (Nat.le_of_ble_eq_true rfl)) dX11_terms_93 ⟨Nat.le_of_ble_eq_true rfl, Nat.le_of_ble_eq_true rfl⟩) hS (fun q _ h => hFc q h) hFc (fun r_21 u_21 t_21 H1 locs ht_21 hvm_21 hw_21 hB_21 hz_21 hk_21 hS => ?_)
          obtain ⟨hP, hD⟩ := va_join (wr := [(h_7, .inr (7, [.ref h_7_0, .ref h_7_1, .ref h_7_2, .int h_7_3, .int h_7_4, .int h_7_5, .int h_7_6, .int h_7_7, .long h_7_8, .long h_7_9, .int h_7_10, .ref h_7_11, .ref h_7_12, .ref h_7_13])), (h_8, .inr (8, [.ref h_8_0, .ref h_8_1, .ref h_8_2, .ref h_8_3, .ref h_8_4, .ref h_8_5, .ref h_8_6, .ref h_8_7, .int h_8_8, .int h_8_9, .int h_8_10, .int h_8_11, .ref h_8_12, .int h_8_13, .ref h_8_14, .int h_8_15, .int h_8_16]))]) (w1 := []) hP hD [0] [1, 2] rfl rfl (by decide) (by decide) hk_21 hFc (fun k q h => by simp at h) ⟨fun i j p q h => by simp at h, fun k q h => by simp at h⟩
          generalize H1 = H at hP hS ⊢
          have hP : va_P D vwCl [(h_7, .inr (7, [.ref h_7_0, .ref h_7_1, .ref h_7_2, .int h_7_3, .int h_7_4, .int h_7_5, .int h_7_6, .int h_7_7, .long h_7_8, .long h_7_9, .int h_7_10, .ref h_7_11, .ref h_7_12, .ref h_7_13])), (h_8, .inr (8, [.ref h_8_0, .ref h_8_1, .ref h_8_2, .ref h_8_3, .ref h_8_4, .ref h_8_5, .ref h_8_6, .ref h_8_7, .int h_8_8, .int h_8_9, .int h_8_10, .int h_8_11, .ref h_8_12, .int h_8_13, .ref h_8_14, .int h_8_15, .int h_8_16]))] H := hP
          have hD : va_D A [(h_7, .inr (7, [.ref h_7_0, .ref h_7_1, .ref h_7_2, .int h_7_3, .int h_7_4, .int h_7_5, .int h_7_6, .int h_7_7, .long h_7_8, .long h_7_9, .int h_7_10, .ref h_7_11, .ref h_7_12, .ref h_7_13])), (h_8, .inr (8, [.ref h_8_0, .ref h_8_1, .ref h_8_2, .ref h_8_3, .ref h_8_4, .ref h_8_5, .ref h_8_6, .ref h_8_7, .int h_8_8, .int h_8_9, .int h_8_10, .int h_8_11, .ref h_8_12, .int h_8_13, .ref h_8_14, .int h_8_15, .int h_8_16]))] := hD
          subst hw_21
          exact W.iret (v := (-1)) hx hb hr (fun t ht hW => ⟨⟨(-1), (), rfl, (by simp [sp_terms, c_2, c_4, c_11, c_18]), trivial⟩, hS.F ht⟩) hS.2.2 dX11_terms_96
  · refine lv_iload_n hx hb dX11_terms_11 rfl (lv_at hl 3 rfl) ?_
    refine lv_iconst (v := 1) hx hb dX11_terms_12 (by decide) ?_
    refine lv_sipush (v := 1000) hx hb dX11_terms_13 (by decide) ?_
    have hPc := hP.sub (ws' := []) [] rfl
    refine z_calli (va_runS (As := [.int a3, .int 1, .int 1000]) (rest := []) ⟨hx, hb, hml, hown, hg⟩ (c_within l D ct a3 1 1000 ) (va_cwS 3 hg (gd_S wd_959 wd_917 wd_107 wd_918) rfl rfl rfl (by decide +kernel) ⟨Nat.le_of_ble_eq_true rfl, Nat.le_of_ble_eq_true rfl⟩) (Wr_S hPc hKK) rfl rfl hl.1 rfl (lv_room (Nat.le_of_ble_eq_true rfl)) dX11_terms_16 ⟨Nat.le_of_ble_eq_true rfl, Nat.le_of_ble_eq_true rfl⟩) (fun r_22 hw_22 => ?_)
    subst hw_22
    refine lv_if_eq (tgt := 26) hx hb dX11_terms_19 (by decide) (fun c_23 => ?_) (fun c_23 => ?_)
    · refine lv_iconst (v := 0) hx hb dX11_terms_26 (by decide) ?_
      refine lv_istore (lv' := [(7, .int 0), (0, .ref h), (1, .int a1), (2, .int a2), (3, .int a3), (4, .int a4), (5, .int a5), (6, .int a6)]) hx hb dX11_terms_27 hl (by decide) rfl (fun ls hl => ?_)
      refine lv_iload hx hb dX11_terms_29 (lv_at hl 5 rfl) ?_
      refine lv_iconst (v := 1) hx hb dX11_terms_31 (by decide) ?_
      refine lv_sipush (v := 1000) hx hb dX11_terms_32 (by decide) ?_
      have hPc := hP.sub (ws' := []) [] rfl
      refine z_calli (va_runS (As := [.int a4, .int 1, .int 1000]) (rest := []) ⟨hx, hb, hml, hown, hg⟩ (c_within l D ct a4 1 1000 ) (va_cwS 3 hg (gd_S wd_959 wd_917 wd_107 wd_918) rfl rfl rfl (by decide +kernel) ⟨Nat.le_of_ble_eq_true rfl, Nat.le_of_ble_eq_true rfl⟩) (Wr_S hPc hKK) rfl rfl hl.1 rfl (lv_room (Nat.le_of_ble_eq_true rfl)) dX11_terms_35 ⟨Nat.le_of_ble_eq_true rfl, Nat.le_of_ble_eq_true rfl⟩) (fun r_24 hw_24 => ?_)
      subst hw_24
      refine lv_if_eq (tgt := 57) hx hb dX11_terms_38 (by decide) (fun c_25 => ?_) (fun c_25 => ?_)
      · refine lv_iconst (v := 0) hx hb dX11_terms_57 (by decide) ?_
        refine lv_istore (lv' := [(8, .int 0), (7, .int 0), (0, .ref h), (1, .int a1), (2, .int a2), (3, .int a3), (4, .int a4), (5, .int a5), (6, .int a6)]) hx hb dX11_terms_58 hl (by decide) rfl (fun ls hl => ?_)
        refine lv_iload_n hx hb dX11_terms_60 rfl (lv_at hl 3 rfl) ?_
        refine lv_iconst (v := 0) hx hb dX11_terms_61 (by decide) ?_
        refine lv_iconst (v := 3) hx hb dX11_terms_62 (by decide) ?_
        have hPc := hP.sub (ws' := []) [] rfl
        refine z_calli (va_runS (As := [.int a1, .int 0, .int 3]) (rest := []) ⟨hx, hb, hml, hown, hg⟩ (c_within l D ct a1 0 3 ) (va_cwS 3 hg (gd_S wd_959 wd_917 wd_107 wd_918) rfl rfl rfl (by decide +kernel) ⟨Nat.le_of_ble_eq_true rfl, Nat.le_of_ble_eq_true rfl⟩) (Wr_S hPc hKK) rfl rfl hl.1 rfl (lv_room (Nat.le_of_ble_eq_true rfl)) dX11_terms_63 ⟨Nat.le_of_ble_eq_true rfl, Nat.le_of_ble_eq_true rfl⟩) (fun r_26 hw_26 => ?_)
        subst hw_26
        refine lv_if_eq (tgt := 91) hx hb dX11_terms_66 (by decide) (fun c_27 => ?_) (fun c_27 => ?_)
        · refine lv_aload_n hx hb dX11_terms_91 rfl (lv_at hl 2 rfl) ?_
          refine lv_iconst (v := (-1)) hx hb dX11_terms_92 (by decide) ?_
          have hPc := hP.sub (ws' := [(h, .inr (11, [.ref h_0, .ref h_1, .ref h_2, .ref h_3, .ref h_4, .ref h_5, .ref h_6, .ref h_7, .ref h_8, .ref h_9, .ref h_10, .ref h_11, .ref h_12, .int h_13, .int h_14]))]) [0] rfl
          have hDc := hD.sub (ws' := [(h, .inr (11, [.ref h_0, .ref h_1, .ref h_2, .ref h_3, .ref h_4, .ref h_5, .ref h_6, .ref h_7, .ref h_8, .ref h_9, .ref h_10, .ref h_11, .ref h_12, .int h_13, .int h_14]))]) [0] (by decide) rfl
          have hFc := va_free (wc := [(h, .inr (11, [.ref h_0, .ref h_1, .ref h_2, .ref h_3, .ref h_4, .ref h_5, .ref h_6, .ref h_7, .ref h_8, .ref h_9, .ref h_10, .ref h_11, .ref h_12, .int h_13, .int h_14]))]) hD hS hA [0] rfl
          refine va_calli (va_runV (As := [.int (-1)]) (rest := []) ⟨hx, hb, hml, hown, hg⟩ (c_refuse l D ct h (-1) h_0 h_1 h_2 h_3 h_4 h_5 h_6 h_7 h_8 h_9 h_10 h_11 h_12 h_13 h_14 s.heap.size ) (cwV 1 hg (gd_V wd_778 wd_780 wd_3 wd_107 wd_781) rfl rfl rfl (by decide +kernel) ⟨Nat.le_of_ble_eq_true rfl, Nat.le_of_ble_eq_true rfl⟩) (Wd_V hPc hKK hDc (va_recv hK hPc (ci := 11) (q0 := 0) rfl rfl)) rfl rfl hl.1 rfl (lv_room (Nat.le_of_ble_eq_true rfl)) dX11_terms_93 ⟨Nat.le_of_ble_eq_true rfl, Nat.le_of_ble_eq_true rfl⟩) hS (fun q _ h => hFc q h) hFc (fun r_28 u_28 t_28 H1 locs ht_28 hvm_28 hw_28 hB_28 hz_28 hk_28 hS => ?_)
          obtain ⟨hP, hD⟩ := va_join (wr := [(h_7, .inr (7, [.ref h_7_0, .ref h_7_1, .ref h_7_2, .int h_7_3, .int h_7_4, .int h_7_5, .int h_7_6, .int h_7_7, .long h_7_8, .long h_7_9, .int h_7_10, .ref h_7_11, .ref h_7_12, .ref h_7_13])), (h_8, .inr (8, [.ref h_8_0, .ref h_8_1, .ref h_8_2, .ref h_8_3, .ref h_8_4, .ref h_8_5, .ref h_8_6, .ref h_8_7, .int h_8_8, .int h_8_9, .int h_8_10, .int h_8_11, .ref h_8_12, .int h_8_13, .ref h_8_14, .int h_8_15, .int h_8_16]))]) (w1 := []) hP hD [0] [1, 2] rfl rfl (by decide) (by decide) hk_28 hFc (fun k q h => by simp at h) ⟨fun i j p q h => by simp at h, fun k q h => by simp at h⟩
          generalize H1 = H at hP hS ⊢
          have hP : va_P D vwCl [(h_7, .inr (7, [.ref h_7_0, .ref h_7_1, .ref h_7_2, .int h_7_3, .int h_7_4, .int h_7_5, .int h_7_6, .int h_7_7, .long h_7_8, .long h_7_9, .int h_7_10, .ref h_7_11, .ref h_7_12, .ref h_7_13])), (h_8, .inr (8, [.ref h_8_0, .ref h_8_1, .ref h_8_2, .ref h_8_3, .ref h_8_4, .ref h_8_5, .ref h_8_6, .ref h_8_7, .int h_8_8, .int h_8_9, .int h_8_10, .int h_8_11, .ref h_8_12, .int h_8_13, .ref h_8_14, .int h_8_15, .int h_8_16]))] H := hP
          have hD : va_D A [(h_7, .inr (7, [.ref h_7_0, .ref h_7_1, .ref h_7_2, .int h_7_3, .int h_7_4, .int h_7_5, .int h_7_6, .int h_7_7, .long h_7_8, .long h_7_9, .int h_7_10, .ref h_7_11, .ref h_7_12, .ref h_7_13])), (h_8, .inr (8, [.ref h_8_0, .ref h_8_1, .ref h_8_2, .ref h_8_3, .ref h_8_4, .ref h_8_5, .ref h_8_6, .ref h_8_7, .int h_8_8, .int h_8_9, .int h_8_10, .int h_8_11, .ref h_8_12, .int h_8_13, .ref h_8_14, .int h_8_15, .int h_8_16]))] := hD
          subst hw_28
          exact W.iret (v := (-1)) hx hb hr (fun t ht hW => ⟨⟨(-1), (), rfl, (by simp [sp_terms, c_2, c_23, c_25, c_27]), trivial⟩, hS.F ht⟩) hS.2.2 dX11_terms_96
        · refine lv_iload hx hb dX11_terms_69 (lv_at hl 1 rfl) ?_
          refine lv_if_eq (tgt := 91) hx hb dX11_terms_71 (by decide) (fun _ => ?_) (fun h => absurd (by decide) h)
          refine lv_aload_n hx hb dX11_terms_91 rfl (lv_at hl 2 rfl) ?_
          refine lv_iconst (v := (-1)) hx hb dX11_terms_92 (by decide) ?_
          have hPc := hP.sub (ws' := [(h, .inr (11, [.ref h_0, .ref h_1, .ref h_2, .ref h_3, .ref h_4, .ref h_5, .ref h_6, .ref h_7, .ref h_8, .ref h_9, .ref h_10, .ref h_11, .ref h_12, .int h_13, .int h_14]))]) [0] rfl
          have hDc := hD.sub (ws' := [(h, .inr (11, [.ref h_0, .ref h_1, .ref h_2, .ref h_3, .ref h_4, .ref h_5, .ref h_6, .ref h_7, .ref h_8, .ref h_9, .ref h_10, .ref h_11, .ref h_12, .int h_13, .int h_14]))]) [0] (by decide) rfl
          have hFc := va_free (wc := [(h, .inr (11, [.ref h_0, .ref h_1, .ref h_2, .ref h_3, .ref h_4, .ref h_5, .ref h_6, .ref h_7, .ref h_8, .ref h_9, .ref h_10, .ref h_11, .ref h_12, .int h_13, .int h_14]))]) hD hS hA [0] rfl
          refine va_calli (va_runV (As := [.int (-1)]) (rest := []) ⟨hx, hb, hml, hown, hg⟩ (c_refuse l D ct h (-1) h_0 h_1 h_2 h_3 h_4 h_5 h_6 h_7 h_8 h_9 h_10 h_11 h_12 h_13 h_14 s.heap.size ) (cwV 1 hg (gd_V wd_778 wd_780 wd_3 wd_107 wd_781) rfl rfl rfl (by decide +kernel) ⟨Nat.le_of_ble_eq_true rfl, Nat.le_of_ble_eq_true rfl⟩) (Wd_V hPc hKK hDc (va_recv hK hPc (ci := 11) (q0 := 0) rfl rfl)) rfl rfl hl.1 rfl (lv_room (Nat.le_of_ble_eq_true rfl)) dX11_terms_93 ⟨Nat.le_of_ble_eq_true rfl, Nat.le_of_ble_eq_true rfl⟩) hS (fun q _ h => hFc q h) hFc (fun r_30 u_30 t_30 H1 locs ht_30 hvm_30 hw_30 hB_30 hz_30 hk_30 hS => ?_)
          obtain ⟨hP, hD⟩ := va_join (wr := [(h_7, .inr (7, [.ref h_7_0, .ref h_7_1, .ref h_7_2, .int h_7_3, .int h_7_4, .int h_7_5, .int h_7_6, .int h_7_7, .long h_7_8, .long h_7_9, .int h_7_10, .ref h_7_11, .ref h_7_12, .ref h_7_13])), (h_8, .inr (8, [.ref h_8_0, .ref h_8_1, .ref h_8_2, .ref h_8_3, .ref h_8_4, .ref h_8_5, .ref h_8_6, .ref h_8_7, .int h_8_8, .int h_8_9, .int h_8_10, .int h_8_11, .ref h_8_12, .int h_8_13, .ref h_8_14, .int h_8_15, .int h_8_16]))]) (w1 := []) hP hD [0] [1, 2] rfl rfl (by decide) (by decide) hk_30 hFc (fun k q h => by simp at h) ⟨fun i j p q h => by simp at h, fun k q h => by simp at h⟩
          generalize H1 = H at hP hS ⊢
          have hP : va_P D vwCl [(h_7, .inr (7, [.ref h_7_0, .ref h_7_1, .ref h_7_2, .int h_7_3, .int h_7_4, .int h_7_5, .int h_7_6, .int h_7_7, .long h_7_8, .long h_7_9, .int h_7_10, .ref h_7_11, .ref h_7_12, .ref h_7_13])), (h_8, .inr (8, [.ref h_8_0, .ref h_8_1, .ref h_8_2, .ref h_8_3, .ref h_8_4, .ref h_8_5, .ref h_8_6, .ref h_8_7, .int h_8_8, .int h_8_9, .int h_8_10, .int h_8_11, .ref h_8_12, .int h_8_13, .ref h_8_14, .int h_8_15, .int h_8_16]))] H := hP
          have hD : va_D A [(h_7, .inr (7, [.ref h_7_0, .ref h_7_1, .ref h_7_2, .int h_7_3, .int h_7_4, .int h_7_5, .int h_7_6, .int h_7_7, .long h_7_8, .long h_7_9, .int h_7_10, .ref h_7_11, .ref h_7_12, .ref h_7_13])), (h_8, .inr (8, [.ref h_8_0, .ref h_8_1, .ref h_8_2, .ref h_8_3, .ref h_8_4, .ref h_8_5, .ref h_8_6, .ref h_8_7, .int h_8_8, .int h_8_9, .int h_8_10, .int h_8_11, .ref h_8_12, .int h_8_13, .ref h_8_14, .int h_8_15, .int h_8_16]))] := hD
          subst hw_30
          exact W.iret (v := (-1)) hx hb hr (fun t ht hW => ⟨⟨(-1), (), rfl, (by simp [sp_terms, c_2, c_23, c_25, c_27]), trivial⟩, hS.F ht⟩) hS.2.2 dX11_terms_96
      · refine lv_iload hx hb dX11_terms_41 (lv_at hl 6 rfl) ?_
        refine lv_iconst (v := 1) hx hb dX11_terms_43 (by decide) ?_
        refine lv_sipush (v := 1000) hx hb dX11_terms_44 (by decide) ?_
        have hPc := hP.sub (ws' := []) [] rfl
        refine z_calli (va_runS (As := [.int a5, .int 1, .int 1000]) (rest := []) ⟨hx, hb, hml, hown, hg⟩ (c_within l D ct a5 1 1000 ) (va_cwS 3 hg (gd_S wd_959 wd_917 wd_107 wd_918) rfl rfl rfl (by decide +kernel) ⟨Nat.le_of_ble_eq_true rfl, Nat.le_of_ble_eq_true rfl⟩) (Wr_S hPc hKK) rfl rfl hl.1 rfl (lv_room (Nat.le_of_ble_eq_true rfl)) dX11_terms_47 ⟨Nat.le_of_ble_eq_true rfl, Nat.le_of_ble_eq_true rfl⟩) (fun r_31 hw_31 => ?_)
        subst hw_31
        refine lv_if_eq (tgt := 57) hx hb dX11_terms_50 (by decide) (fun c_32 => ?_) (fun c_32 => ?_)
        · refine lv_iconst (v := 0) hx hb dX11_terms_57 (by decide) ?_
          refine lv_istore (lv' := [(8, .int 0), (7, .int 0), (0, .ref h), (1, .int a1), (2, .int a2), (3, .int a3), (4, .int a4), (5, .int a5), (6, .int a6)]) hx hb dX11_terms_58 hl (by decide) rfl (fun ls hl => ?_)
          refine lv_iload_n hx hb dX11_terms_60 rfl (lv_at hl 3 rfl) ?_
          refine lv_iconst (v := 0) hx hb dX11_terms_61 (by decide) ?_
          refine lv_iconst (v := 3) hx hb dX11_terms_62 (by decide) ?_
          have hPc := hP.sub (ws' := []) [] rfl
          refine z_calli (va_runS (As := [.int a1, .int 0, .int 3]) (rest := []) ⟨hx, hb, hml, hown, hg⟩ (c_within l D ct a1 0 3 ) (va_cwS 3 hg (gd_S wd_959 wd_917 wd_107 wd_918) rfl rfl rfl (by decide +kernel) ⟨Nat.le_of_ble_eq_true rfl, Nat.le_of_ble_eq_true rfl⟩) (Wr_S hPc hKK) rfl rfl hl.1 rfl (lv_room (Nat.le_of_ble_eq_true rfl)) dX11_terms_63 ⟨Nat.le_of_ble_eq_true rfl, Nat.le_of_ble_eq_true rfl⟩) (fun r_33 hw_33 => ?_)
          subst hw_33
          refine lv_if_eq (tgt := 91) hx hb dX11_terms_66 (by decide) (fun c_34 => ?_) (fun c_34 => ?_)
          · refine lv_aload_n hx hb dX11_terms_91 rfl (lv_at hl 2 rfl) ?_
            refine lv_iconst (v := (-1)) hx hb dX11_terms_92 (by decide) ?_
            have hPc := hP.sub (ws' := [(h, .inr (11, [.ref h_0, .ref h_1, .ref h_2, .ref h_3, .ref h_4, .ref h_5, .ref h_6, .ref h_7, .ref h_8, .ref h_9, .ref h_10, .ref h_11, .ref h_12, .int h_13, .int h_14]))]) [0] rfl
            have hDc := hD.sub (ws' := [(h, .inr (11, [.ref h_0, .ref h_1, .ref h_2, .ref h_3, .ref h_4, .ref h_5, .ref h_6, .ref h_7, .ref h_8, .ref h_9, .ref h_10, .ref h_11, .ref h_12, .int h_13, .int h_14]))]) [0] (by decide) rfl
            have hFc := va_free (wc := [(h, .inr (11, [.ref h_0, .ref h_1, .ref h_2, .ref h_3, .ref h_4, .ref h_5, .ref h_6, .ref h_7, .ref h_8, .ref h_9, .ref h_10, .ref h_11, .ref h_12, .int h_13, .int h_14]))]) hD hS hA [0] rfl
            refine va_calli (va_runV (As := [.int (-1)]) (rest := []) ⟨hx, hb, hml, hown, hg⟩ (c_refuse l D ct h (-1) h_0 h_1 h_2 h_3 h_4 h_5 h_6 h_7 h_8 h_9 h_10 h_11 h_12 h_13 h_14 s.heap.size ) (cwV 1 hg (gd_V wd_778 wd_780 wd_3 wd_107 wd_781) rfl rfl rfl (by decide +kernel) ⟨Nat.le_of_ble_eq_true rfl, Nat.le_of_ble_eq_true rfl⟩) (Wd_V hPc hKK hDc (va_recv hK hPc (ci := 11) (q0 := 0) rfl rfl)) rfl rfl hl.1 rfl (lv_room (Nat.le_of_ble_eq_true rfl)) dX11_terms_93 ⟨Nat.le_of_ble_eq_true rfl, Nat.le_of_ble_eq_true rfl⟩) hS (fun q _ h => hFc q h) hFc (fun r_35 u_35 t_35 H1 locs ht_35 hvm_35 hw_35 hB_35 hz_35 hk_35 hS => ?_)
            obtain ⟨hP, hD⟩ := va_join (wr := [(h_7, .inr (7, [.ref h_7_0, .ref h_7_1, .ref h_7_2, .int h_7_3, .int h_7_4, .int h_7_5, .int h_7_6, .int h_7_7, .long h_7_8, .long h_7_9, .int h_7_10, .ref h_7_11, .ref h_7_12, .ref h_7_13])), (h_8, .inr (8, [.ref h_8_0, .ref h_8_1, .ref h_8_2, .ref h_8_3, .ref h_8_4, .ref h_8_5, .ref h_8_6, .ref h_8_7, .int h_8_8, .int h_8_9, .int h_8_10, .int h_8_11, .ref h_8_12, .int h_8_13, .ref h_8_14, .int h_8_15, .int h_8_16]))]) (w1 := []) hP hD [0] [1, 2] rfl rfl (by decide) (by decide) hk_35 hFc (fun k q h => by simp at h) ⟨fun i j p q h => by simp at h, fun k q h => by simp at h⟩
            generalize H1 = H at hP hS ⊢
            have hP : va_P D vwCl [(h_7, .inr (7, [.ref h_7_0, .ref h_7_1, .ref h_7_2, .int h_7_3, .int h_7_4, .int h_7_5, .int h_7_6, .int h_7_7, .long h_7_8, .long h_7_9, .int h_7_10, .ref h_7_11, .ref h_7_12, .ref h_7_13])), (h_8, .inr (8, [.ref h_8_0, .ref h_8_1, .ref h_8_2, .ref h_8_3, .ref h_8_4, .ref h_8_5, .ref h_8_6, .ref h_8_7, .int h_8_8, .int h_8_9, .int h_8_10, .int h_8_11, .ref h_8_12, .int h_8_13, .ref h_8_14, .int h_8_15, .int h_8_16]))] H := hP
            have hD : va_D A [(h_7, .inr (7, [.ref h_7_0, .ref h_7_1, .ref h_7_2, .int h_7_3, .int h_7_4, .int h_7_5, .int h_7_6, .int h_7_7, .long h_7_8, .long h_7_9, .int h_7_10, .ref h_7_11, .ref h_7_12, .ref h_7_13])), (h_8, .inr (8, [.ref h_8_0, .ref h_8_1, .ref h_8_2, .ref h_8_3, .ref h_8_4, .ref h_8_5, .ref h_8_6, .ref h_8_7, .int h_8_8, .int h_8_9, .int h_8_10, .int h_8_11, .ref h_8_12, .int h_8_13, .ref h_8_14, .int h_8_15, .int h_8_16]))] := hD
            subst hw_35
            exact W.iret (v := (-1)) hx hb hr (fun t ht hW => ⟨⟨(-1), (), rfl, (by simp [sp_terms, c_2, c_23, c_25, c_32, c_34]), trivial⟩, hS.F ht⟩) hS.2.2 dX11_terms_96
          · refine lv_iload hx hb dX11_terms_69 (lv_at hl 1 rfl) ?_
            refine lv_if_eq (tgt := 91) hx hb dX11_terms_71 (by decide) (fun _ => ?_) (fun h => absurd (by decide) h)
            refine lv_aload_n hx hb dX11_terms_91 rfl (lv_at hl 2 rfl) ?_
            refine lv_iconst (v := (-1)) hx hb dX11_terms_92 (by decide) ?_
            have hPc := hP.sub (ws' := [(h, .inr (11, [.ref h_0, .ref h_1, .ref h_2, .ref h_3, .ref h_4, .ref h_5, .ref h_6, .ref h_7, .ref h_8, .ref h_9, .ref h_10, .ref h_11, .ref h_12, .int h_13, .int h_14]))]) [0] rfl
            have hDc := hD.sub (ws' := [(h, .inr (11, [.ref h_0, .ref h_1, .ref h_2, .ref h_3, .ref h_4, .ref h_5, .ref h_6, .ref h_7, .ref h_8, .ref h_9, .ref h_10, .ref h_11, .ref h_12, .int h_13, .int h_14]))]) [0] (by decide) rfl
            have hFc := va_free (wc := [(h, .inr (11, [.ref h_0, .ref h_1, .ref h_2, .ref h_3, .ref h_4, .ref h_5, .ref h_6, .ref h_7, .ref h_8, .ref h_9, .ref h_10, .ref h_11, .ref h_12, .int h_13, .int h_14]))]) hD hS hA [0] rfl
            refine va_calli (va_runV (As := [.int (-1)]) (rest := []) ⟨hx, hb, hml, hown, hg⟩ (c_refuse l D ct h (-1) h_0 h_1 h_2 h_3 h_4 h_5 h_6 h_7 h_8 h_9 h_10 h_11 h_12 h_13 h_14 s.heap.size ) (cwV 1 hg (gd_V wd_778 wd_780 wd_3 wd_107 wd_781) rfl rfl rfl (by decide +kernel) ⟨Nat.le_of_ble_eq_true rfl, Nat.le_of_ble_eq_true rfl⟩) (Wd_V hPc hKK hDc (va_recv hK hPc (ci := 11) (q0 := 0) rfl rfl)) rfl rfl hl.1 rfl (lv_room (Nat.le_of_ble_eq_true rfl)) dX11_terms_93 ⟨Nat.le_of_ble_eq_true rfl, Nat.le_of_ble_eq_true rfl⟩) hS (fun q _ h => hFc q h) hFc (fun r_37 u_37 t_37 H1 locs ht_37 hvm_37 hw_37 hB_37 hz_37 hk_37 hS => ?_)
            obtain ⟨hP, hD⟩ := va_join (wr := [(h_7, .inr (7, [.ref h_7_0, .ref h_7_1, .ref h_7_2, .int h_7_3, .int h_7_4, .int h_7_5, .int h_7_6, .int h_7_7, .long h_7_8, .long h_7_9, .int h_7_10, .ref h_7_11, .ref h_7_12, .ref h_7_13])), (h_8, .inr (8, [.ref h_8_0, .ref h_8_1, .ref h_8_2, .ref h_8_3, .ref h_8_4, .ref h_8_5, .ref h_8_6, .ref h_8_7, .int h_8_8, .int h_8_9, .int h_8_10, .int h_8_11, .ref h_8_12, .int h_8_13, .ref h_8_14, .int h_8_15, .int h_8_16]))]) (w1 := []) hP hD [0] [1, 2] rfl rfl (by decide) (by decide) hk_37 hFc (fun k q h => by simp at h) ⟨fun i j p q h => by simp at h, fun k q h => by simp at h⟩
            generalize H1 = H at hP hS ⊢
            have hP : va_P D vwCl [(h_7, .inr (7, [.ref h_7_0, .ref h_7_1, .ref h_7_2, .int h_7_3, .int h_7_4, .int h_7_5, .int h_7_6, .int h_7_7, .long h_7_8, .long h_7_9, .int h_7_10, .ref h_7_11, .ref h_7_12, .ref h_7_13])), (h_8, .inr (8, [.ref h_8_0, .ref h_8_1, .ref h_8_2, .ref h_8_3, .ref h_8_4, .ref h_8_5, .ref h_8_6, .ref h_8_7, .int h_8_8, .int h_8_9, .int h_8_10, .int h_8_11, .ref h_8_12, .int h_8_13, .ref h_8_14, .int h_8_15, .int h_8_16]))] H := hP
            have hD : va_D A [(h_7, .inr (7, [.ref h_7_0, .ref h_7_1, .ref h_7_2, .int h_7_3, .int h_7_4, .int h_7_5, .int h_7_6, .int h_7_7, .long h_7_8, .long h_7_9, .int h_7_10, .ref h_7_11, .ref h_7_12, .ref h_7_13])), (h_8, .inr (8, [.ref h_8_0, .ref h_8_1, .ref h_8_2, .ref h_8_3, .ref h_8_4, .ref h_8_5, .ref h_8_6, .ref h_8_7, .int h_8_8, .int h_8_9, .int h_8_10, .int h_8_11, .ref h_8_12, .int h_8_13, .ref h_8_14, .int h_8_15, .int h_8_16]))] := hD
            subst hw_37
            exact W.iret (v := (-1)) hx hb hr (fun t ht hW => ⟨⟨(-1), (), rfl, (by simp [sp_terms, c_2, c_23, c_25, c_32, c_34]), trivial⟩, hS.F ht⟩) hS.2.2 dX11_terms_96
        · refine lv_iconst (v := 1) hx hb dX11_terms_53 (by decide) ?_
          refine lv_goto (tgt := 58) hx hb dX11_terms_54 (by decide) ?_
          refine lv_istore (lv' := [(8, .int 1), (7, .int 0), (0, .ref h), (1, .int a1), (2, .int a2), (3, .int a3), (4, .int a4), (5, .int a5), (6, .int a6)]) hx hb dX11_terms_58 hl (by decide) rfl (fun ls hl => ?_)
          refine lv_iload_n hx hb dX11_terms_60 rfl (lv_at hl 3 rfl) ?_
          refine lv_iconst (v := 0) hx hb dX11_terms_61 (by decide) ?_
          refine lv_iconst (v := 3) hx hb dX11_terms_62 (by decide) ?_
          have hPc := hP.sub (ws' := []) [] rfl
          refine z_calli (va_runS (As := [.int a1, .int 0, .int 3]) (rest := []) ⟨hx, hb, hml, hown, hg⟩ (c_within l D ct a1 0 3 ) (va_cwS 3 hg (gd_S wd_959 wd_917 wd_107 wd_918) rfl rfl rfl (by decide +kernel) ⟨Nat.le_of_ble_eq_true rfl, Nat.le_of_ble_eq_true rfl⟩) (Wr_S hPc hKK) rfl rfl hl.1 rfl (lv_room (Nat.le_of_ble_eq_true rfl)) dX11_terms_63 ⟨Nat.le_of_ble_eq_true rfl, Nat.le_of_ble_eq_true rfl⟩) (fun r_38 hw_38 => ?_)
          subst hw_38
          refine lv_if_eq (tgt := 91) hx hb dX11_terms_66 (by decide) (fun c_39 => ?_) (fun c_39 => ?_)
          · refine lv_aload_n hx hb dX11_terms_91 rfl (lv_at hl 2 rfl) ?_
            refine lv_iconst (v := (-1)) hx hb dX11_terms_92 (by decide) ?_
            have hPc := hP.sub (ws' := [(h, .inr (11, [.ref h_0, .ref h_1, .ref h_2, .ref h_3, .ref h_4, .ref h_5, .ref h_6, .ref h_7, .ref h_8, .ref h_9, .ref h_10, .ref h_11, .ref h_12, .int h_13, .int h_14]))]) [0] rfl
            have hDc := hD.sub (ws' := [(h, .inr (11, [.ref h_0, .ref h_1, .ref h_2, .ref h_3, .ref h_4, .ref h_5, .ref h_6, .ref h_7, .ref h_8, .ref h_9, .ref h_10, .ref h_11, .ref h_12, .int h_13, .int h_14]))]) [0] (by decide) rfl
            have hFc := va_free (wc := [(h, .inr (11, [.ref h_0, .ref h_1, .ref h_2, .ref h_3, .ref h_4, .ref h_5, .ref h_6, .ref h_7, .ref h_8, .ref h_9, .ref h_10, .ref h_11, .ref h_12, .int h_13, .int h_14]))]) hD hS hA [0] rfl
            refine va_calli (va_runV (As := [.int (-1)]) (rest := []) ⟨hx, hb, hml, hown, hg⟩ (c_refuse l D ct h (-1) h_0 h_1 h_2 h_3 h_4 h_5 h_6 h_7 h_8 h_9 h_10 h_11 h_12 h_13 h_14 s.heap.size ) (cwV 1 hg (gd_V wd_778 wd_780 wd_3 wd_107 wd_781) rfl rfl rfl (by decide +kernel) ⟨Nat.le_of_ble_eq_true rfl, Nat.le_of_ble_eq_true rfl⟩) (Wd_V hPc hKK hDc (va_recv hK hPc (ci := 11) (q0 := 0) rfl rfl)) rfl rfl hl.1 rfl (lv_room (Nat.le_of_ble_eq_true rfl)) dX11_terms_93 ⟨Nat.le_of_ble_eq_true rfl, Nat.le_of_ble_eq_true rfl⟩) hS (fun q _ h => hFc q h) hFc (fun r_40 u_40 t_40 H1 locs ht_40 hvm_40 hw_40 hB_40 hz_40 hk_40 hS => ?_)
            obtain ⟨hP, hD⟩ := va_join (wr := [(h_7, .inr (7, [.ref h_7_0, .ref h_7_1, .ref h_7_2, .int h_7_3, .int h_7_4, .int h_7_5, .int h_7_6, .int h_7_7, .long h_7_8, .long h_7_9, .int h_7_10, .ref h_7_11, .ref h_7_12, .ref h_7_13])), (h_8, .inr (8, [.ref h_8_0, .ref h_8_1, .ref h_8_2, .ref h_8_3, .ref h_8_4, .ref h_8_5, .ref h_8_6, .ref h_8_7, .int h_8_8, .int h_8_9, .int h_8_10, .int h_8_11, .ref h_8_12, .int h_8_13, .ref h_8_14, .int h_8_15, .int h_8_16]))]) (w1 := []) hP hD [0] [1, 2] rfl rfl (by decide) (by decide) hk_40 hFc (fun k q h => by simp at h) ⟨fun i j p q h => by simp at h, fun k q h => by simp at h⟩
            generalize H1 = H at hP hS ⊢
            have hP : va_P D vwCl [(h_7, .inr (7, [.ref h_7_0, .ref h_7_1, .ref h_7_2, .int h_7_3, .int h_7_4, .int h_7_5, .int h_7_6, .int h_7_7, .long h_7_8, .long h_7_9, .int h_7_10, .ref h_7_11, .ref h_7_12, .ref h_7_13])), (h_8, .inr (8, [.ref h_8_0, .ref h_8_1, .ref h_8_2, .ref h_8_3, .ref h_8_4, .ref h_8_5, .ref h_8_6, .ref h_8_7, .int h_8_8, .int h_8_9, .int h_8_10, .int h_8_11, .ref h_8_12, .int h_8_13, .ref h_8_14, .int h_8_15, .int h_8_16]))] H := hP
            have hD : va_D A [(h_7, .inr (7, [.ref h_7_0, .ref h_7_1, .ref h_7_2, .int h_7_3, .int h_7_4, .int h_7_5, .int h_7_6, .int h_7_7, .long h_7_8, .long h_7_9, .int h_7_10, .ref h_7_11, .ref h_7_12, .ref h_7_13])), (h_8, .inr (8, [.ref h_8_0, .ref h_8_1, .ref h_8_2, .ref h_8_3, .ref h_8_4, .ref h_8_5, .ref h_8_6, .ref h_8_7, .int h_8_8, .int h_8_9, .int h_8_10, .int h_8_11, .ref h_8_12, .int h_8_13, .ref h_8_14, .int h_8_15, .int h_8_16]))] := hD
            subst hw_40
            exact W.iret (v := (-1)) hx hb hr (fun t ht hW => ⟨⟨(-1), (), rfl, (by simp [sp_terms, c_2, c_23, c_25, c_32, c_39]), trivial⟩, hS.F ht⟩) hS.2.2 dX11_terms_96
          · refine lv_iload hx hb dX11_terms_69 (lv_at hl 1 rfl) ?_
            refine lv_if_eq (tgt := 91) hx hb dX11_terms_71 (by decide) (fun _ => ?_) (fun h => absurd (by decide) h)
            refine lv_aload_n hx hb dX11_terms_91 rfl (lv_at hl 2 rfl) ?_
            refine lv_iconst (v := (-1)) hx hb dX11_terms_92 (by decide) ?_
            have hPc := hP.sub (ws' := [(h, .inr (11, [.ref h_0, .ref h_1, .ref h_2, .ref h_3, .ref h_4, .ref h_5, .ref h_6, .ref h_7, .ref h_8, .ref h_9, .ref h_10, .ref h_11, .ref h_12, .int h_13, .int h_14]))]) [0] rfl
            have hDc := hD.sub (ws' := [(h, .inr (11, [.ref h_0, .ref h_1, .ref h_2, .ref h_3, .ref h_4, .ref h_5, .ref h_6, .ref h_7, .ref h_8, .ref h_9, .ref h_10, .ref h_11, .ref h_12, .int h_13, .int h_14]))]) [0] (by decide) rfl
            have hFc := va_free (wc := [(h, .inr (11, [.ref h_0, .ref h_1, .ref h_2, .ref h_3, .ref h_4, .ref h_5, .ref h_6, .ref h_7, .ref h_8, .ref h_9, .ref h_10, .ref h_11, .ref h_12, .int h_13, .int h_14]))]) hD hS hA [0] rfl
            refine va_calli (va_runV (As := [.int (-1)]) (rest := []) ⟨hx, hb, hml, hown, hg⟩ (c_refuse l D ct h (-1) h_0 h_1 h_2 h_3 h_4 h_5 h_6 h_7 h_8 h_9 h_10 h_11 h_12 h_13 h_14 s.heap.size ) (cwV 1 hg (gd_V wd_778 wd_780 wd_3 wd_107 wd_781) rfl rfl rfl (by decide +kernel) ⟨Nat.le_of_ble_eq_true rfl, Nat.le_of_ble_eq_true rfl⟩) (Wd_V hPc hKK hDc (va_recv hK hPc (ci := 11) (q0 := 0) rfl rfl)) rfl rfl hl.1 rfl (lv_room (Nat.le_of_ble_eq_true rfl)) dX11_terms_93 ⟨Nat.le_of_ble_eq_true rfl, Nat.le_of_ble_eq_true rfl⟩) hS (fun q _ h => hFc q h) hFc (fun r_42 u_42 t_42 H1 locs ht_42 hvm_42 hw_42 hB_42 hz_42 hk_42 hS => ?_)
            obtain ⟨hP, hD⟩ := va_join (wr := [(h_7, .inr (7, [.ref h_7_0, .ref h_7_1, .ref h_7_2, .int h_7_3, .int h_7_4, .int h_7_5, .int h_7_6, .int h_7_7, .long h_7_8, .long h_7_9, .int h_7_10, .ref h_7_11, .ref h_7_12, .ref h_7_13])), (h_8, .inr (8, [.ref h_8_0, .ref h_8_1, .ref h_8_2, .ref h_8_3, .ref h_8_4, .ref h_8_5, .ref h_8_6, .ref h_8_7, .int h_8_8, .int h_8_9, .int h_8_10, .int h_8_11, .ref h_8_12, .int h_8_13, .ref h_8_14, .int h_8_15, .int h_8_16]))]) (w1 := []) hP hD [0] [1, 2] rfl rfl (by decide) (by decide) hk_42 hFc (fun k q h => by simp at h) ⟨fun i j p q h => by simp at h, fun k q h => by simp at h⟩
            generalize H1 = H at hP hS ⊢
            have hP : va_P D vwCl [(h_7, .inr (7, [.ref h_7_0, .ref h_7_1, .ref h_7_2, .int h_7_3, .int h_7_4, .int h_7_5, .int h_7_6, .int h_7_7, .long h_7_8, .long h_7_9, .int h_7_10, .ref h_7_11, .ref h_7_12, .ref h_7_13])), (h_8, .inr (8, [.ref h_8_0, .ref h_8_1, .ref h_8_2, .ref h_8_3, .ref h_8_4, .ref h_8_5, .ref h_8_6, .ref h_8_7, .int h_8_8, .int h_8_9, .int h_8_10, .int h_8_11, .ref h_8_12, .int h_8_13, .ref h_8_14, .int h_8_15, .int h_8_16]))] H := hP
            have hD : va_D A [(h_7, .inr (7, [.ref h_7_0, .ref h_7_1, .ref h_7_2, .int h_7_3, .int h_7_4, .int h_7_5, .int h_7_6, .int h_7_7, .long h_7_8, .long h_7_9, .int h_7_10, .ref h_7_11, .ref h_7_12, .ref h_7_13])), (h_8, .inr (8, [.ref h_8_0, .ref h_8_1, .ref h_8_2, .ref h_8_3, .ref h_8_4, .ref h_8_5, .ref h_8_6, .ref h_8_7, .int h_8_8, .int h_8_9, .int h_8_10, .int h_8_11, .ref h_8_12, .int h_8_13, .ref h_8_14, .int h_8_15, .int h_8_16]))] := hD
            subst hw_42
            exact W.iret (v := (-1)) hx hb hr (fun t ht hW => ⟨⟨(-1), (), rfl, (by simp [sp_terms, c_2, c_23, c_25, c_32, c_39]), trivial⟩, hS.F ht⟩) hS.2.2 dX11_terms_96
    · refine lv_iconst (v := 1) hx hb dX11_terms_22 (by decide) ?_
      refine lv_goto (tgt := 27) hx hb dX11_terms_23 (by decide) ?_
      refine lv_istore (lv' := [(7, .int 1), (0, .ref h), (1, .int a1), (2, .int a2), (3, .int a3), (4, .int a4), (5, .int a5), (6, .int a6)]) hx hb dX11_terms_27 hl (by decide) rfl (fun ls hl => ?_)
      refine lv_iload hx hb dX11_terms_29 (lv_at hl 5 rfl) ?_
      refine lv_iconst (v := 1) hx hb dX11_terms_31 (by decide) ?_
      refine lv_sipush (v := 1000) hx hb dX11_terms_32 (by decide) ?_
      have hPc := hP.sub (ws' := []) [] rfl
      refine z_calli (va_runS (As := [.int a4, .int 1, .int 1000]) (rest := []) ⟨hx, hb, hml, hown, hg⟩ (c_within l D ct a4 1 1000 ) (va_cwS 3 hg (gd_S wd_959 wd_917 wd_107 wd_918) rfl rfl rfl (by decide +kernel) ⟨Nat.le_of_ble_eq_true rfl, Nat.le_of_ble_eq_true rfl⟩) (Wr_S hPc hKK) rfl rfl hl.1 rfl (lv_room (Nat.le_of_ble_eq_true rfl)) dX11_terms_35 ⟨Nat.le_of_ble_eq_true rfl, Nat.le_of_ble_eq_true rfl⟩) (fun r_43 hw_43 => ?_)
      subst hw_43
      refine lv_if_eq (tgt := 57) hx hb dX11_terms_38 (by decide) (fun c_44 => ?_) (fun c_44 => ?_)
      · refine lv_iconst (v := 0) hx hb dX11_terms_57 (by decide) ?_
        refine lv_istore (lv' := [(8, .int 0), (7, .int 1), (0, .ref h), (1, .int a1), (2, .int a2), (3, .int a3), (4, .int a4), (5, .int a5), (6, .int a6)]) hx hb dX11_terms_58 hl (by decide) rfl (fun ls hl => ?_)
        refine lv_iload_n hx hb dX11_terms_60 rfl (lv_at hl 3 rfl) ?_
        refine lv_iconst (v := 0) hx hb dX11_terms_61 (by decide) ?_
        refine lv_iconst (v := 3) hx hb dX11_terms_62 (by decide) ?_
        have hPc := hP.sub (ws' := []) [] rfl
        refine z_calli (va_runS (As := [.int a1, .int 0, .int 3]) (rest := []) ⟨hx, hb, hml, hown, hg⟩ (c_within l D ct a1 0 3 ) (va_cwS 3 hg (gd_S wd_959 wd_917 wd_107 wd_918) rfl rfl rfl (by decide +kernel) ⟨Nat.le_of_ble_eq_true rfl, Nat.le_of_ble_eq_true rfl⟩) (Wr_S hPc hKK) rfl rfl hl.1 rfl (lv_room (Nat.le_of_ble_eq_true rfl)) dX11_terms_63 ⟨Nat.le_of_ble_eq_true rfl, Nat.le_of_ble_eq_true rfl⟩) (fun r_45 hw_45 => ?_)
        subst hw_45
        refine lv_if_eq (tgt := 91) hx hb dX11_terms_66 (by decide) (fun c_46 => ?_) (fun c_46 => ?_)
        · refine lv_aload_n hx hb dX11_terms_91 rfl (lv_at hl 2 rfl) ?_
          refine lv_iconst (v := (-1)) hx hb dX11_terms_92 (by decide) ?_
          have hPc := hP.sub (ws' := [(h, .inr (11, [.ref h_0, .ref h_1, .ref h_2, .ref h_3, .ref h_4, .ref h_5, .ref h_6, .ref h_7, .ref h_8, .ref h_9, .ref h_10, .ref h_11, .ref h_12, .int h_13, .int h_14]))]) [0] rfl
          have hDc := hD.sub (ws' := [(h, .inr (11, [.ref h_0, .ref h_1, .ref h_2, .ref h_3, .ref h_4, .ref h_5, .ref h_6, .ref h_7, .ref h_8, .ref h_9, .ref h_10, .ref h_11, .ref h_12, .int h_13, .int h_14]))]) [0] (by decide) rfl
          have hFc := va_free (wc := [(h, .inr (11, [.ref h_0, .ref h_1, .ref h_2, .ref h_3, .ref h_4, .ref h_5, .ref h_6, .ref h_7, .ref h_8, .ref h_9, .ref h_10, .ref h_11, .ref h_12, .int h_13, .int h_14]))]) hD hS hA [0] rfl
          refine va_calli (va_runV (As := [.int (-1)]) (rest := []) ⟨hx, hb, hml, hown, hg⟩ (c_refuse l D ct h (-1) h_0 h_1 h_2 h_3 h_4 h_5 h_6 h_7 h_8 h_9 h_10 h_11 h_12 h_13 h_14 s.heap.size ) (cwV 1 hg (gd_V wd_778 wd_780 wd_3 wd_107 wd_781) rfl rfl rfl (by decide +kernel) ⟨Nat.le_of_ble_eq_true rfl, Nat.le_of_ble_eq_true rfl⟩) (Wd_V hPc hKK hDc (va_recv hK hPc (ci := 11) (q0 := 0) rfl rfl)) rfl rfl hl.1 rfl (lv_room (Nat.le_of_ble_eq_true rfl)) dX11_terms_93 ⟨Nat.le_of_ble_eq_true rfl, Nat.le_of_ble_eq_true rfl⟩) hS (fun q _ h => hFc q h) hFc (fun r_47 u_47 t_47 H1 locs ht_47 hvm_47 hw_47 hB_47 hz_47 hk_47 hS => ?_)
          obtain ⟨hP, hD⟩ := va_join (wr := [(h_7, .inr (7, [.ref h_7_0, .ref h_7_1, .ref h_7_2, .int h_7_3, .int h_7_4, .int h_7_5, .int h_7_6, .int h_7_7, .long h_7_8, .long h_7_9, .int h_7_10, .ref h_7_11, .ref h_7_12, .ref h_7_13])), (h_8, .inr (8, [.ref h_8_0, .ref h_8_1, .ref h_8_2, .ref h_8_3, .ref h_8_4, .ref h_8_5, .ref h_8_6, .ref h_8_7, .int h_8_8, .int h_8_9, .int h_8_10, .int h_8_11, .ref h_8_12, .int h_8_13, .ref h_8_14, .int h_8_15, .int h_8_16]))]) (w1 := []) hP hD [0] [1, 2] rfl rfl (by decide) (by decide) hk_47 hFc (fun k q h => by simp at h) ⟨fun i j p q h => by simp at h, fun k q h => by simp at h⟩
          generalize H1 = H at hP hS ⊢
          have hP : va_P D vwCl [(h_7, .inr (7, [.ref h_7_0, .ref h_7_1, .ref h_7_2, .int h_7_3, .int h_7_4, .int h_7_5, .int h_7_6, .int h_7_7, .long h_7_8, .long h_7_9, .int h_7_10, .ref h_7_11, .ref h_7_12, .ref h_7_13])), (h_8, .inr (8, [.ref h_8_0, .ref h_8_1, .ref h_8_2, .ref h_8_3, .ref h_8_4, .ref h_8_5, .ref h_8_6, .ref h_8_7, .int h_8_8, .int h_8_9, .int h_8_10, .int h_8_11, .ref h_8_12, .int h_8_13, .ref h_8_14, .int h_8_15, .int h_8_16]))] H := hP
          have hD : va_D A [(h_7, .inr (7, [.ref h_7_0, .ref h_7_1, .ref h_7_2, .int h_7_3, .int h_7_4, .int h_7_5, .int h_7_6, .int h_7_7, .long h_7_8, .long h_7_9, .int h_7_10, .ref h_7_11, .ref h_7_12, .ref h_7_13])), (h_8, .inr (8, [.ref h_8_0, .ref h_8_1, .ref h_8_2, .ref h_8_3, .ref h_8_4, .ref h_8_5, .ref h_8_6, .ref h_8_7, .int h_8_8, .int h_8_9, .int h_8_10, .int h_8_11, .ref h_8_12, .int h_8_13, .ref h_8_14, .int h_8_15, .int h_8_16]))] := hD
          subst hw_47
          exact W.iret (v := (-1)) hx hb hr (fun t ht hW => ⟨⟨(-1), (), rfl, (by simp [sp_terms, c_2, c_23, c_44, c_46]), trivial⟩, hS.F ht⟩) hS.2.2 dX11_terms_96
        · refine lv_iload hx hb dX11_terms_69 (lv_at hl 1 rfl) ?_
          refine lv_if_eq (tgt := 91) hx hb dX11_terms_71 (by decide) (fun h => absurd h (by decide)) (fun _ => ?_)
          refine lv_iload hx hb dX11_terms_74 (lv_at hl 0 rfl) ?_
          refine lv_if_eq (tgt := 91) hx hb dX11_terms_76 (by decide) (fun _ => ?_) (fun h => absurd (by decide) h)
          refine lv_aload_n hx hb dX11_terms_91 rfl (lv_at hl 2 rfl) ?_
          refine lv_iconst (v := (-1)) hx hb dX11_terms_92 (by decide) ?_
          have hPc := hP.sub (ws' := [(h, .inr (11, [.ref h_0, .ref h_1, .ref h_2, .ref h_3, .ref h_4, .ref h_5, .ref h_6, .ref h_7, .ref h_8, .ref h_9, .ref h_10, .ref h_11, .ref h_12, .int h_13, .int h_14]))]) [0] rfl
          have hDc := hD.sub (ws' := [(h, .inr (11, [.ref h_0, .ref h_1, .ref h_2, .ref h_3, .ref h_4, .ref h_5, .ref h_6, .ref h_7, .ref h_8, .ref h_9, .ref h_10, .ref h_11, .ref h_12, .int h_13, .int h_14]))]) [0] (by decide) rfl
          have hFc := va_free (wc := [(h, .inr (11, [.ref h_0, .ref h_1, .ref h_2, .ref h_3, .ref h_4, .ref h_5, .ref h_6, .ref h_7, .ref h_8, .ref h_9, .ref h_10, .ref h_11, .ref h_12, .int h_13, .int h_14]))]) hD hS hA [0] rfl
          refine va_calli (va_runV (As := [.int (-1)]) (rest := []) ⟨hx, hb, hml, hown, hg⟩ (c_refuse l D ct h (-1) h_0 h_1 h_2 h_3 h_4 h_5 h_6 h_7 h_8 h_9 h_10 h_11 h_12 h_13 h_14 s.heap.size ) (cwV 1 hg (gd_V wd_778 wd_780 wd_3 wd_107 wd_781) rfl rfl rfl (by decide +kernel) ⟨Nat.le_of_ble_eq_true rfl, Nat.le_of_ble_eq_true rfl⟩) (Wd_V hPc hKK hDc (va_recv hK hPc (ci := 11) (q0 := 0) rfl rfl)) rfl rfl hl.1 rfl (lv_room (Nat.le_of_ble_eq_true rfl)) dX11_terms_93 ⟨Nat.le_of_ble_eq_true rfl, Nat.le_of_ble_eq_true rfl⟩) hS (fun q _ h => hFc q h) hFc (fun r_50 u_50 t_50 H1 locs ht_50 hvm_50 hw_50 hB_50 hz_50 hk_50 hS => ?_)
          obtain ⟨hP, hD⟩ := va_join (wr := [(h_7, .inr (7, [.ref h_7_0, .ref h_7_1, .ref h_7_2, .int h_7_3, .int h_7_4, .int h_7_5, .int h_7_6, .int h_7_7, .long h_7_8, .long h_7_9, .int h_7_10, .ref h_7_11, .ref h_7_12, .ref h_7_13])), (h_8, .inr (8, [.ref h_8_0, .ref h_8_1, .ref h_8_2, .ref h_8_3, .ref h_8_4, .ref h_8_5, .ref h_8_6, .ref h_8_7, .int h_8_8, .int h_8_9, .int h_8_10, .int h_8_11, .ref h_8_12, .int h_8_13, .ref h_8_14, .int h_8_15, .int h_8_16]))]) (w1 := []) hP hD [0] [1, 2] rfl rfl (by decide) (by decide) hk_50 hFc (fun k q h => by simp at h) ⟨fun i j p q h => by simp at h, fun k q h => by simp at h⟩
          generalize H1 = H at hP hS ⊢
          have hP : va_P D vwCl [(h_7, .inr (7, [.ref h_7_0, .ref h_7_1, .ref h_7_2, .int h_7_3, .int h_7_4, .int h_7_5, .int h_7_6, .int h_7_7, .long h_7_8, .long h_7_9, .int h_7_10, .ref h_7_11, .ref h_7_12, .ref h_7_13])), (h_8, .inr (8, [.ref h_8_0, .ref h_8_1, .ref h_8_2, .ref h_8_3, .ref h_8_4, .ref h_8_5, .ref h_8_6, .ref h_8_7, .int h_8_8, .int h_8_9, .int h_8_10, .int h_8_11, .ref h_8_12, .int h_8_13, .ref h_8_14, .int h_8_15, .int h_8_16]))] H := hP
          have hD : va_D A [(h_7, .inr (7, [.ref h_7_0, .ref h_7_1, .ref h_7_2, .int h_7_3, .int h_7_4, .int h_7_5, .int h_7_6, .int h_7_7, .long h_7_8, .long h_7_9, .int h_7_10, .ref h_7_11, .ref h_7_12, .ref h_7_13])), (h_8, .inr (8, [.ref h_8_0, .ref h_8_1, .ref h_8_2, .ref h_8_3, .ref h_8_4, .ref h_8_5, .ref h_8_6, .ref h_8_7, .int h_8_8, .int h_8_9, .int h_8_10, .int h_8_11, .ref h_8_12, .int h_8_13, .ref h_8_14, .int h_8_15, .int h_8_16]))] := hD
          subst hw_50
          exact W.iret (v := (-1)) hx hb hr (fun t ht hW => ⟨⟨(-1), (), rfl, (by simp [sp_terms, c_2, c_23, c_44, c_46]), trivial⟩, hS.F ht⟩) hS.2.2 dX11_terms_96
      · refine lv_iload hx hb dX11_terms_41 (lv_at hl 6 rfl) ?_
        refine lv_iconst (v := 1) hx hb dX11_terms_43 (by decide) ?_
        refine lv_sipush (v := 1000) hx hb dX11_terms_44 (by decide) ?_
        have hPc := hP.sub (ws' := []) [] rfl
        refine z_calli (va_runS (As := [.int a5, .int 1, .int 1000]) (rest := []) ⟨hx, hb, hml, hown, hg⟩ (c_within l D ct a5 1 1000 ) (va_cwS 3 hg (gd_S wd_959 wd_917 wd_107 wd_918) rfl rfl rfl (by decide +kernel) ⟨Nat.le_of_ble_eq_true rfl, Nat.le_of_ble_eq_true rfl⟩) (Wr_S hPc hKK) rfl rfl hl.1 rfl (lv_room (Nat.le_of_ble_eq_true rfl)) dX11_terms_47 ⟨Nat.le_of_ble_eq_true rfl, Nat.le_of_ble_eq_true rfl⟩) (fun r_51 hw_51 => ?_)
        subst hw_51
        refine lv_if_eq (tgt := 57) hx hb dX11_terms_50 (by decide) (fun c_52 => ?_) (fun c_52 => ?_)
        · refine lv_iconst (v := 0) hx hb dX11_terms_57 (by decide) ?_
          refine lv_istore (lv' := [(8, .int 0), (7, .int 1), (0, .ref h), (1, .int a1), (2, .int a2), (3, .int a3), (4, .int a4), (5, .int a5), (6, .int a6)]) hx hb dX11_terms_58 hl (by decide) rfl (fun ls hl => ?_)
          refine lv_iload_n hx hb dX11_terms_60 rfl (lv_at hl 3 rfl) ?_
          refine lv_iconst (v := 0) hx hb dX11_terms_61 (by decide) ?_
          refine lv_iconst (v := 3) hx hb dX11_terms_62 (by decide) ?_
          have hPc := hP.sub (ws' := []) [] rfl
          refine z_calli (va_runS (As := [.int a1, .int 0, .int 3]) (rest := []) ⟨hx, hb, hml, hown, hg⟩ (c_within l D ct a1 0 3 ) (va_cwS 3 hg (gd_S wd_959 wd_917 wd_107 wd_918) rfl rfl rfl (by decide +kernel) ⟨Nat.le_of_ble_eq_true rfl, Nat.le_of_ble_eq_true rfl⟩) (Wr_S hPc hKK) rfl rfl hl.1 rfl (lv_room (Nat.le_of_ble_eq_true rfl)) dX11_terms_63 ⟨Nat.le_of_ble_eq_true rfl, Nat.le_of_ble_eq_true rfl⟩) (fun r_53 hw_53 => ?_)
          subst hw_53
          refine lv_if_eq (tgt := 91) hx hb dX11_terms_66 (by decide) (fun c_54 => ?_) (fun c_54 => ?_)
          · refine lv_aload_n hx hb dX11_terms_91 rfl (lv_at hl 2 rfl) ?_
            refine lv_iconst (v := (-1)) hx hb dX11_terms_92 (by decide) ?_
            have hPc := hP.sub (ws' := [(h, .inr (11, [.ref h_0, .ref h_1, .ref h_2, .ref h_3, .ref h_4, .ref h_5, .ref h_6, .ref h_7, .ref h_8, .ref h_9, .ref h_10, .ref h_11, .ref h_12, .int h_13, .int h_14]))]) [0] rfl
            have hDc := hD.sub (ws' := [(h, .inr (11, [.ref h_0, .ref h_1, .ref h_2, .ref h_3, .ref h_4, .ref h_5, .ref h_6, .ref h_7, .ref h_8, .ref h_9, .ref h_10, .ref h_11, .ref h_12, .int h_13, .int h_14]))]) [0] (by decide) rfl
            have hFc := va_free (wc := [(h, .inr (11, [.ref h_0, .ref h_1, .ref h_2, .ref h_3, .ref h_4, .ref h_5, .ref h_6, .ref h_7, .ref h_8, .ref h_9, .ref h_10, .ref h_11, .ref h_12, .int h_13, .int h_14]))]) hD hS hA [0] rfl
            refine va_calli (va_runV (As := [.int (-1)]) (rest := []) ⟨hx, hb, hml, hown, hg⟩ (c_refuse l D ct h (-1) h_0 h_1 h_2 h_3 h_4 h_5 h_6 h_7 h_8 h_9 h_10 h_11 h_12 h_13 h_14 s.heap.size ) (cwV 1 hg (gd_V wd_778 wd_780 wd_3 wd_107 wd_781) rfl rfl rfl (by decide +kernel) ⟨Nat.le_of_ble_eq_true rfl, Nat.le_of_ble_eq_true rfl⟩) (Wd_V hPc hKK hDc (va_recv hK hPc (ci := 11) (q0 := 0) rfl rfl)) rfl rfl hl.1 rfl (lv_room (Nat.le_of_ble_eq_true rfl)) dX11_terms_93 ⟨Nat.le_of_ble_eq_true rfl, Nat.le_of_ble_eq_true rfl⟩) hS (fun q _ h => hFc q h) hFc (fun r_55 u_55 t_55 H1 locs ht_55 hvm_55 hw_55 hB_55 hz_55 hk_55 hS => ?_)
            obtain ⟨hP, hD⟩ := va_join (wr := [(h_7, .inr (7, [.ref h_7_0, .ref h_7_1, .ref h_7_2, .int h_7_3, .int h_7_4, .int h_7_5, .int h_7_6, .int h_7_7, .long h_7_8, .long h_7_9, .int h_7_10, .ref h_7_11, .ref h_7_12, .ref h_7_13])), (h_8, .inr (8, [.ref h_8_0, .ref h_8_1, .ref h_8_2, .ref h_8_3, .ref h_8_4, .ref h_8_5, .ref h_8_6, .ref h_8_7, .int h_8_8, .int h_8_9, .int h_8_10, .int h_8_11, .ref h_8_12, .int h_8_13, .ref h_8_14, .int h_8_15, .int h_8_16]))]) (w1 := []) hP hD [0] [1, 2] rfl rfl (by decide) (by decide) hk_55 hFc (fun k q h => by simp at h) ⟨fun i j p q h => by simp at h, fun k q h => by simp at h⟩
            generalize H1 = H at hP hS ⊢
            have hP : va_P D vwCl [(h_7, .inr (7, [.ref h_7_0, .ref h_7_1, .ref h_7_2, .int h_7_3, .int h_7_4, .int h_7_5, .int h_7_6, .int h_7_7, .long h_7_8, .long h_7_9, .int h_7_10, .ref h_7_11, .ref h_7_12, .ref h_7_13])), (h_8, .inr (8, [.ref h_8_0, .ref h_8_1, .ref h_8_2, .ref h_8_3, .ref h_8_4, .ref h_8_5, .ref h_8_6, .ref h_8_7, .int h_8_8, .int h_8_9, .int h_8_10, .int h_8_11, .ref h_8_12, .int h_8_13, .ref h_8_14, .int h_8_15, .int h_8_16]))] H := hP
            have hD : va_D A [(h_7, .inr (7, [.ref h_7_0, .ref h_7_1, .ref h_7_2, .int h_7_3, .int h_7_4, .int h_7_5, .int h_7_6, .int h_7_7, .long h_7_8, .long h_7_9, .int h_7_10, .ref h_7_11, .ref h_7_12, .ref h_7_13])), (h_8, .inr (8, [.ref h_8_0, .ref h_8_1, .ref h_8_2, .ref h_8_3, .ref h_8_4, .ref h_8_5, .ref h_8_6, .ref h_8_7, .int h_8_8, .int h_8_9, .int h_8_10, .int h_8_11, .ref h_8_12, .int h_8_13, .ref h_8_14, .int h_8_15, .int h_8_16]))] := hD
            subst hw_55
            exact W.iret (v := (-1)) hx hb hr (fun t ht hW => ⟨⟨(-1), (), rfl, (by simp [sp_terms, c_2, c_23, c_44, c_52, c_54]), trivial⟩, hS.F ht⟩) hS.2.2 dX11_terms_96
          · refine lv_iload hx hb dX11_terms_69 (lv_at hl 1 rfl) ?_
            refine lv_if_eq (tgt := 91) hx hb dX11_terms_71 (by decide) (fun h => absurd h (by decide)) (fun _ => ?_)
            refine lv_iload hx hb dX11_terms_74 (lv_at hl 0 rfl) ?_
            refine lv_if_eq (tgt := 91) hx hb dX11_terms_76 (by decide) (fun _ => ?_) (fun h => absurd (by decide) h)
            refine lv_aload_n hx hb dX11_terms_91 rfl (lv_at hl 2 rfl) ?_
            refine lv_iconst (v := (-1)) hx hb dX11_terms_92 (by decide) ?_
            have hPc := hP.sub (ws' := [(h, .inr (11, [.ref h_0, .ref h_1, .ref h_2, .ref h_3, .ref h_4, .ref h_5, .ref h_6, .ref h_7, .ref h_8, .ref h_9, .ref h_10, .ref h_11, .ref h_12, .int h_13, .int h_14]))]) [0] rfl
            have hDc := hD.sub (ws' := [(h, .inr (11, [.ref h_0, .ref h_1, .ref h_2, .ref h_3, .ref h_4, .ref h_5, .ref h_6, .ref h_7, .ref h_8, .ref h_9, .ref h_10, .ref h_11, .ref h_12, .int h_13, .int h_14]))]) [0] (by decide) rfl
            have hFc := va_free (wc := [(h, .inr (11, [.ref h_0, .ref h_1, .ref h_2, .ref h_3, .ref h_4, .ref h_5, .ref h_6, .ref h_7, .ref h_8, .ref h_9, .ref h_10, .ref h_11, .ref h_12, .int h_13, .int h_14]))]) hD hS hA [0] rfl
            refine va_calli (va_runV (As := [.int (-1)]) (rest := []) ⟨hx, hb, hml, hown, hg⟩ (c_refuse l D ct h (-1) h_0 h_1 h_2 h_3 h_4 h_5 h_6 h_7 h_8 h_9 h_10 h_11 h_12 h_13 h_14 s.heap.size ) (cwV 1 hg (gd_V wd_778 wd_780 wd_3 wd_107 wd_781) rfl rfl rfl (by decide +kernel) ⟨Nat.le_of_ble_eq_true rfl, Nat.le_of_ble_eq_true rfl⟩) (Wd_V hPc hKK hDc (va_recv hK hPc (ci := 11) (q0 := 0) rfl rfl)) rfl rfl hl.1 rfl (lv_room (Nat.le_of_ble_eq_true rfl)) dX11_terms_93 ⟨Nat.le_of_ble_eq_true rfl, Nat.le_of_ble_eq_true rfl⟩) hS (fun q _ h => hFc q h) hFc (fun r_58 u_58 t_58 H1 locs ht_58 hvm_58 hw_58 hB_58 hz_58 hk_58 hS => ?_)
            obtain ⟨hP, hD⟩ := va_join (wr := [(h_7, .inr (7, [.ref h_7_0, .ref h_7_1, .ref h_7_2, .int h_7_3, .int h_7_4, .int h_7_5, .int h_7_6, .int h_7_7, .long h_7_8, .long h_7_9, .int h_7_10, .ref h_7_11, .ref h_7_12, .ref h_7_13])), (h_8, .inr (8, [.ref h_8_0, .ref h_8_1, .ref h_8_2, .ref h_8_3, .ref h_8_4, .ref h_8_5, .ref h_8_6, .ref h_8_7, .int h_8_8, .int h_8_9, .int h_8_10, .int h_8_11, .ref h_8_12, .int h_8_13, .ref h_8_14, .int h_8_15, .int h_8_16]))]) (w1 := []) hP hD [0] [1, 2] rfl rfl (by decide) (by decide) hk_58 hFc (fun k q h => by simp at h) ⟨fun i j p q h => by simp at h, fun k q h => by simp at h⟩
            generalize H1 = H at hP hS ⊢
            have hP : va_P D vwCl [(h_7, .inr (7, [.ref h_7_0, .ref h_7_1, .ref h_7_2, .int h_7_3, .int h_7_4, .int h_7_5, .int h_7_6, .int h_7_7, .long h_7_8, .long h_7_9, .int h_7_10, .ref h_7_11, .ref h_7_12, .ref h_7_13])), (h_8, .inr (8, [.ref h_8_0, .ref h_8_1, .ref h_8_2, .ref h_8_3, .ref h_8_4, .ref h_8_5, .ref h_8_6, .ref h_8_7, .int h_8_8, .int h_8_9, .int h_8_10, .int h_8_11, .ref h_8_12, .int h_8_13, .ref h_8_14, .int h_8_15, .int h_8_16]))] H := hP
            have hD : va_D A [(h_7, .inr (7, [.ref h_7_0, .ref h_7_1, .ref h_7_2, .int h_7_3, .int h_7_4, .int h_7_5, .int h_7_6, .int h_7_7, .long h_7_8, .long h_7_9, .int h_7_10, .ref h_7_11, .ref h_7_12, .ref h_7_13])), (h_8, .inr (8, [.ref h_8_0, .ref h_8_1, .ref h_8_2, .ref h_8_3, .ref h_8_4, .ref h_8_5, .ref h_8_6, .ref h_8_7, .int h_8_8, .int h_8_9, .int h_8_10, .int h_8_11, .ref h_8_12, .int h_8_13, .ref h_8_14, .int h_8_15, .int h_8_16]))] := hD
            subst hw_58
            exact W.iret (v := (-1)) hx hb hr (fun t ht hW => ⟨⟨(-1), (), rfl, (by simp [sp_terms, c_2, c_23, c_44, c_52, c_54]), trivial⟩, hS.F ht⟩) hS.2.2 dX11_terms_96
        · refine lv_iconst (v := 1) hx hb dX11_terms_53 (by decide) ?_
          refine lv_goto (tgt := 58) hx hb dX11_terms_54 (by decide) ?_
          refine lv_istore (lv' := [(8, .int 1), (7, .int 1), (0, .ref h), (1, .int a1), (2, .int a2), (3, .int a3), (4, .int a4), (5, .int a5), (6, .int a6)]) hx hb dX11_terms_58 hl (by decide) rfl (fun ls hl => ?_)
          refine lv_iload_n hx hb dX11_terms_60 rfl (lv_at hl 3 rfl) ?_
          refine lv_iconst (v := 0) hx hb dX11_terms_61 (by decide) ?_
          refine lv_iconst (v := 3) hx hb dX11_terms_62 (by decide) ?_
          have hPc := hP.sub (ws' := []) [] rfl
          refine z_calli (va_runS (As := [.int a1, .int 0, .int 3]) (rest := []) ⟨hx, hb, hml, hown, hg⟩ (c_within l D ct a1 0 3 ) (va_cwS 3 hg (gd_S wd_959 wd_917 wd_107 wd_918) rfl rfl rfl (by decide +kernel) ⟨Nat.le_of_ble_eq_true rfl, Nat.le_of_ble_eq_true rfl⟩) (Wr_S hPc hKK) rfl rfl hl.1 rfl (lv_room (Nat.le_of_ble_eq_true rfl)) dX11_terms_63 ⟨Nat.le_of_ble_eq_true rfl, Nat.le_of_ble_eq_true rfl⟩) (fun r_59 hw_59 => ?_)
          subst hw_59
          refine lv_if_eq (tgt := 91) hx hb dX11_terms_66 (by decide) (fun c_60 => ?_) (fun c_60 => ?_)
          · refine lv_aload_n hx hb dX11_terms_91 rfl (lv_at hl 2 rfl) ?_
            refine lv_iconst (v := (-1)) hx hb dX11_terms_92 (by decide) ?_
            have hPc := hP.sub (ws' := [(h, .inr (11, [.ref h_0, .ref h_1, .ref h_2, .ref h_3, .ref h_4, .ref h_5, .ref h_6, .ref h_7, .ref h_8, .ref h_9, .ref h_10, .ref h_11, .ref h_12, .int h_13, .int h_14]))]) [0] rfl
            have hDc := hD.sub (ws' := [(h, .inr (11, [.ref h_0, .ref h_1, .ref h_2, .ref h_3, .ref h_4, .ref h_5, .ref h_6, .ref h_7, .ref h_8, .ref h_9, .ref h_10, .ref h_11, .ref h_12, .int h_13, .int h_14]))]) [0] (by decide) rfl
            have hFc := va_free (wc := [(h, .inr (11, [.ref h_0, .ref h_1, .ref h_2, .ref h_3, .ref h_4, .ref h_5, .ref h_6, .ref h_7, .ref h_8, .ref h_9, .ref h_10, .ref h_11, .ref h_12, .int h_13, .int h_14]))]) hD hS hA [0] rfl
            refine va_calli (va_runV (As := [.int (-1)]) (rest := []) ⟨hx, hb, hml, hown, hg⟩ (c_refuse l D ct h (-1) h_0 h_1 h_2 h_3 h_4 h_5 h_6 h_7 h_8 h_9 h_10 h_11 h_12 h_13 h_14 s.heap.size ) (cwV 1 hg (gd_V wd_778 wd_780 wd_3 wd_107 wd_781) rfl rfl rfl (by decide +kernel) ⟨Nat.le_of_ble_eq_true rfl, Nat.le_of_ble_eq_true rfl⟩) (Wd_V hPc hKK hDc (va_recv hK hPc (ci := 11) (q0 := 0) rfl rfl)) rfl rfl hl.1 rfl (lv_room (Nat.le_of_ble_eq_true rfl)) dX11_terms_93 ⟨Nat.le_of_ble_eq_true rfl, Nat.le_of_ble_eq_true rfl⟩) hS (fun q _ h => hFc q h) hFc (fun r_61 u_61 t_61 H1 locs ht_61 hvm_61 hw_61 hB_61 hz_61 hk_61 hS => ?_)
            obtain ⟨hP, hD⟩ := va_join (wr := [(h_7, .inr (7, [.ref h_7_0, .ref h_7_1, .ref h_7_2, .int h_7_3, .int h_7_4, .int h_7_5, .int h_7_6, .int h_7_7, .long h_7_8, .long h_7_9, .int h_7_10, .ref h_7_11, .ref h_7_12, .ref h_7_13])), (h_8, .inr (8, [.ref h_8_0, .ref h_8_1, .ref h_8_2, .ref h_8_3, .ref h_8_4, .ref h_8_5, .ref h_8_6, .ref h_8_7, .int h_8_8, .int h_8_9, .int h_8_10, .int h_8_11, .ref h_8_12, .int h_8_13, .ref h_8_14, .int h_8_15, .int h_8_16]))]) (w1 := []) hP hD [0] [1, 2] rfl rfl (by decide) (by decide) hk_61 hFc (fun k q h => by simp at h) ⟨fun i j p q h => by simp at h, fun k q h => by simp at h⟩
            generalize H1 = H at hP hS ⊢
            have hP : va_P D vwCl [(h_7, .inr (7, [.ref h_7_0, .ref h_7_1, .ref h_7_2, .int h_7_3, .int h_7_4, .int h_7_5, .int h_7_6, .int h_7_7, .long h_7_8, .long h_7_9, .int h_7_10, .ref h_7_11, .ref h_7_12, .ref h_7_13])), (h_8, .inr (8, [.ref h_8_0, .ref h_8_1, .ref h_8_2, .ref h_8_3, .ref h_8_4, .ref h_8_5, .ref h_8_6, .ref h_8_7, .int h_8_8, .int h_8_9, .int h_8_10, .int h_8_11, .ref h_8_12, .int h_8_13, .ref h_8_14, .int h_8_15, .int h_8_16]))] H := hP
            have hD : va_D A [(h_7, .inr (7, [.ref h_7_0, .ref h_7_1, .ref h_7_2, .int h_7_3, .int h_7_4, .int h_7_5, .int h_7_6, .int h_7_7, .long h_7_8, .long h_7_9, .int h_7_10, .ref h_7_11, .ref h_7_12, .ref h_7_13])), (h_8, .inr (8, [.ref h_8_0, .ref h_8_1, .ref h_8_2, .ref h_8_3, .ref h_8_4, .ref h_8_5, .ref h_8_6, .ref h_8_7, .int h_8_8, .int h_8_9, .int h_8_10, .int h_8_11, .ref h_8_12, .int h_8_13, .ref h_8_14, .int h_8_15, .int h_8_16]))] := hD
            subst hw_61
            exact W.iret (v := (-1)) hx hb hr (fun t ht hW => ⟨⟨(-1), (), rfl, (by simp [sp_terms, c_2, c_23, c_44, c_52, c_60]), trivial⟩, hS.F ht⟩) hS.2.2 dX11_terms_96
          · refine lv_iload hx hb dX11_terms_69 (lv_at hl 1 rfl) ?_
            refine lv_if_eq (tgt := 91) hx hb dX11_terms_71 (by decide) (fun h => absurd h (by decide)) (fun _ => ?_)
            refine lv_iload hx hb dX11_terms_74 (lv_at hl 0 rfl) ?_
            refine lv_if_eq (tgt := 91) hx hb dX11_terms_76 (by decide) (fun h => absurd h (by decide)) (fun _ => ?_)
            refine lv_iload hx hb dX11_terms_79 (lv_at hl 8 rfl) ?_
            refine lv_iconst (v := 0) hx hb dX11_terms_81 (by decide) ?_
            refine lv_sipush (v := 255) hx hb dX11_terms_82 (by decide) ?_
            have hPc := hP.sub (ws' := []) [] rfl
            refine z_calli (va_runS (As := [.int a6, .int 0, .int 255]) (rest := []) ⟨hx, hb, hml, hown, hg⟩ (c_within l D ct a6 0 255 ) (va_cwS 3 hg (gd_S wd_959 wd_917 wd_107 wd_918) rfl rfl rfl (by decide +kernel) ⟨Nat.le_of_ble_eq_true rfl, Nat.le_of_ble_eq_true rfl⟩) (Wr_S hPc hKK) rfl rfl hl.1 rfl (lv_room (Nat.le_of_ble_eq_true rfl)) dX11_terms_85 ⟨Nat.le_of_ble_eq_true rfl, Nat.le_of_ble_eq_true rfl⟩) (fun r_64 hw_64 => ?_)
            subst hw_64
            refine lv_if_ne (tgt := 97) hx hb dX11_terms_88 (by decide) (fun c_65 => ?_) (fun c_65 => ?_)
            · refine lv_aload_n hx hb dX11_terms_97 rfl (lv_at hl 2 rfl) ?_
              refine va_get (D := D) (ci := 11) (v := .ref h_7) (C := RX11) (T := TX11) (N := 15) hx hb hg inX11 hown hK hP 0 rfl rfl 7 (by decide) (hg _ wd_690) (fun _ h9 => h9) rfl dX11_terms_98 ?_
              refine lv_iload_n hx hb dX11_terms_101 rfl (lv_at hl 3 rfl) ?_
              refine va_put (D := D) (ci := 7) (v := .int a1) (ty := .int) (C := RX7) (T := TX7) (N := 14) hx hb hg inX7 tyX7 tyX7_ok nmX7 hown hK hP hD hS 1 rfl rfl 3 (by decide) (hg _ wd_372) (fun _ h9 => h9) rfl (by decide +kernel) rfl rfl (Nat.le_of_ble_eq_true rfl) dX11_terms_102 (fun H locs hP hD hS => ?_)
              have hP : va_P D vwCl [(h, .inr (11, [.ref h_0, .ref h_1, .ref h_2, .ref h_3, .ref h_4, .ref h_5, .ref h_6, .ref h_7, .ref h_8, .ref h_9, .ref h_10, .ref h_11, .ref h_12, .int h_13, .int h_14])), (h_7, .inr (7, [.ref h_7_0, .ref h_7_1, .ref h_7_2, .int a1, .int h_7_4, .int h_7_5, .int h_7_6, .int h_7_7, .long h_7_8, .long h_7_9, .int h_7_10, .ref h_7_11, .ref h_7_12, .ref h_7_13])), (h_8, .inr (8, [.ref h_8_0, .ref h_8_1, .ref h_8_2, .ref h_8_3, .ref h_8_4, .ref h_8_5, .ref h_8_6, .ref h_8_7, .int h_8_8, .int h_8_9, .int h_8_10, .int h_8_11, .ref h_8_12, .int h_8_13, .ref h_8_14, .int h_8_15, .int h_8_16]))] H := hP
              have hD : va_D A [(h, .inr (11, [.ref h_0, .ref h_1, .ref h_2, .ref h_3, .ref h_4, .ref h_5, .ref h_6, .ref h_7, .ref h_8, .ref h_9, .ref h_10, .ref h_11, .ref h_12, .int h_13, .int h_14])), (h_7, .inr (7, [.ref h_7_0, .ref h_7_1, .ref h_7_2, .int a1, .int h_7_4, .int h_7_5, .int h_7_6, .int h_7_7, .long h_7_8, .long h_7_9, .int h_7_10, .ref h_7_11, .ref h_7_12, .ref h_7_13])), (h_8, .inr (8, [.ref h_8_0, .ref h_8_1, .ref h_8_2, .ref h_8_3, .ref h_8_4, .ref h_8_5, .ref h_8_6, .ref h_8_7, .int h_8_8, .int h_8_9, .int h_8_10, .int h_8_11, .ref h_8_12, .int h_8_13, .ref h_8_14, .int h_8_15, .int h_8_16]))] := hD
              refine lv_aload_n hx hb dX11_terms_105 rfl (lv_at hl 2 rfl) ?_
              refine va_get (D := D) (ci := 11) (v := .ref h_7) (C := RX11) (T := TX11) (N := 15) hx hb hg inX11 hown hK hP 0 rfl rfl 7 (by decide) (hg _ wd_690) (fun _ h9 => h9) rfl dX11_terms_106 ?_
              refine lv_iload_n hx hb dX11_terms_109 rfl (lv_at hl 4 rfl) ?_
              refine va_put (D := D) (ci := 7) (v := .int a2) (ty := .int) (C := RX7) (T := TX7) (N := 14) hx hb hg inX7 tyX7 tyX7_ok nmX7 hown hK hP hD hS 1 rfl rfl 4 (by decide) (hg _ wd_374) (fun _ h9 => h9) rfl (by decide +kernel) rfl rfl (Nat.le_of_ble_eq_true rfl) dX11_terms_110 (fun H locs hP hD hS => ?_)
              have hP : va_P D vwCl [(h, .inr (11, [.ref h_0, .ref h_1, .ref h_2, .ref h_3, .ref h_4, .ref h_5, .ref h_6, .ref h_7, .ref h_8, .ref h_9, .ref h_10, .ref h_11, .ref h_12, .int h_13, .int h_14])), (h_7, .inr (7, [.ref h_7_0, .ref h_7_1, .ref h_7_2, .int a1, .int a2, .int h_7_5, .int h_7_6, .int h_7_7, .long h_7_8, .long h_7_9, .int h_7_10, .ref h_7_11, .ref h_7_12, .ref h_7_13])), (h_8, .inr (8, [.ref h_8_0, .ref h_8_1, .ref h_8_2, .ref h_8_3, .ref h_8_4, .ref h_8_5, .ref h_8_6, .ref h_8_7, .int h_8_8, .int h_8_9, .int h_8_10, .int h_8_11, .ref h_8_12, .int h_8_13, .ref h_8_14, .int h_8_15, .int h_8_16]))] H := hP
              have hD : va_D A [(h, .inr (11, [.ref h_0, .ref h_1, .ref h_2, .ref h_3, .ref h_4, .ref h_5, .ref h_6, .ref h_7, .ref h_8, .ref h_9, .ref h_10, .ref h_11, .ref h_12, .int h_13, .int h_14])), (h_7, .inr (7, [.ref h_7_0, .ref h_7_1, .ref h_7_2, .int a1, .int a2, .int h_7_5, .int h_7_6, .int h_7_7, .long h_7_8, .long h_7_9, .int h_7_10, .ref h_7_11, .ref h_7_12, .ref h_7_13])), (h_8, .inr (8, [.ref h_8_0, .ref h_8_1, .ref h_8_2, .ref h_8_3, .ref h_8_4, .ref h_8_5, .ref h_8_6, .ref h_8_7, .int h_8_8, .int h_8_9, .int h_8_10, .int h_8_11, .ref h_8_12, .int h_8_13, .ref h_8_14, .int h_8_15, .int h_8_16]))] := hD
              refine lv_aload_n hx hb dX11_terms_113 rfl (lv_at hl 2 rfl) ?_
              refine va_get (D := D) (ci := 11) (v := .ref h_7) (C := RX11) (T := TX11) (N := 15) hx hb hg inX11 hown hK hP 0 rfl rfl 7 (by decide) (hg _ wd_690) (fun _ h9 => h9) rfl dX11_terms_114 ?_
              refine lv_iload_n hx hb dX11_terms_117 rfl (lv_at hl 5 rfl) ?_
              refine va_put (D := D) (ci := 7) (v := .int a3) (ty := .int) (C := RX7) (T := TX7) (N := 14) hx hb hg inX7 tyX7 tyX7_ok nmX7 hown hK hP hD hS 1 rfl rfl 5 (by decide) (hg _ wd_376) (fun _ h9 => h9) rfl (by decide +kernel) rfl rfl (Nat.le_of_ble_eq_true rfl) dX11_terms_118 (fun H locs hP hD hS => ?_)
              have hP : va_P D vwCl [(h, .inr (11, [.ref h_0, .ref h_1, .ref h_2, .ref h_3, .ref h_4, .ref h_5, .ref h_6, .ref h_7, .ref h_8, .ref h_9, .ref h_10, .ref h_11, .ref h_12, .int h_13, .int h_14])), (h_7, .inr (7, [.ref h_7_0, .ref h_7_1, .ref h_7_2, .int a1, .int a2, .int a3, .int h_7_6, .int h_7_7, .long h_7_8, .long h_7_9, .int h_7_10, .ref h_7_11, .ref h_7_12, .ref h_7_13])), (h_8, .inr (8, [.ref h_8_0, .ref h_8_1, .ref h_8_2, .ref h_8_3, .ref h_8_4, .ref h_8_5, .ref h_8_6, .ref h_8_7, .int h_8_8, .int h_8_9, .int h_8_10, .int h_8_11, .ref h_8_12, .int h_8_13, .ref h_8_14, .int h_8_15, .int h_8_16]))] H := hP
              have hD : va_D A [(h, .inr (11, [.ref h_0, .ref h_1, .ref h_2, .ref h_3, .ref h_4, .ref h_5, .ref h_6, .ref h_7, .ref h_8, .ref h_9, .ref h_10, .ref h_11, .ref h_12, .int h_13, .int h_14])), (h_7, .inr (7, [.ref h_7_0, .ref h_7_1, .ref h_7_2, .int a1, .int a2, .int a3, .int h_7_6, .int h_7_7, .long h_7_8, .long h_7_9, .int h_7_10, .ref h_7_11, .ref h_7_12, .ref h_7_13])), (h_8, .inr (8, [.ref h_8_0, .ref h_8_1, .ref h_8_2, .ref h_8_3, .ref h_8_4, .ref h_8_5, .ref h_8_6, .ref h_8_7, .int h_8_8, .int h_8_9, .int h_8_10, .int h_8_11, .ref h_8_12, .int h_8_13, .ref h_8_14, .int h_8_15, .int h_8_16]))] := hD
              refine lv_aload_n hx hb dX11_terms_121 rfl (lv_at hl 2 rfl) ?_
              refine va_get (D := D) (ci := 11) (v := .ref h_7) (C := RX11) (T := TX11) (N := 15) hx hb hg inX11 hown hK hP 0 rfl rfl 7 (by decide) (hg _ wd_690) (fun _ h9 => h9) rfl dX11_terms_122 ?_
              refine lv_iload hx hb dX11_terms_125 (lv_at hl 6 rfl) ?_
              refine va_put (D := D) (ci := 7) (v := .int a4) (ty := .int) (C := RX7) (T := TX7) (N := 14) hx hb hg inX7 tyX7 tyX7_ok nmX7 hown hK hP hD hS 1 rfl rfl 6 (by decide) (hg _ wd_378) (fun _ h9 => h9) rfl (by decide +kernel) rfl rfl (Nat.le_of_ble_eq_true rfl) dX11_terms_127 (fun H locs hP hD hS => ?_)
              have hP : va_P D vwCl [(h, .inr (11, [.ref h_0, .ref h_1, .ref h_2, .ref h_3, .ref h_4, .ref h_5, .ref h_6, .ref h_7, .ref h_8, .ref h_9, .ref h_10, .ref h_11, .ref h_12, .int h_13, .int h_14])), (h_7, .inr (7, [.ref h_7_0, .ref h_7_1, .ref h_7_2, .int a1, .int a2, .int a3, .int a4, .int h_7_7, .long h_7_8, .long h_7_9, .int h_7_10, .ref h_7_11, .ref h_7_12, .ref h_7_13])), (h_8, .inr (8, [.ref h_8_0, .ref h_8_1, .ref h_8_2, .ref h_8_3, .ref h_8_4, .ref h_8_5, .ref h_8_6, .ref h_8_7, .int h_8_8, .int h_8_9, .int h_8_10, .int h_8_11, .ref h_8_12, .int h_8_13, .ref h_8_14, .int h_8_15, .int h_8_16]))] H := hP
              have hD : va_D A [(h, .inr (11, [.ref h_0, .ref h_1, .ref h_2, .ref h_3, .ref h_4, .ref h_5, .ref h_6, .ref h_7, .ref h_8, .ref h_9, .ref h_10, .ref h_11, .ref h_12, .int h_13, .int h_14])), (h_7, .inr (7, [.ref h_7_0, .ref h_7_1, .ref h_7_2, .int a1, .int a2, .int a3, .int a4, .int h_7_7, .long h_7_8, .long h_7_9, .int h_7_10, .ref h_7_11, .ref h_7_12, .ref h_7_13])), (h_8, .inr (8, [.ref h_8_0, .ref h_8_1, .ref h_8_2, .ref h_8_3, .ref h_8_4, .ref h_8_5, .ref h_8_6, .ref h_8_7, .int h_8_8, .int h_8_9, .int h_8_10, .int h_8_11, .ref h_8_12, .int h_8_13, .ref h_8_14, .int h_8_15, .int h_8_16]))] := hD
              refine lv_aload_n hx hb dX11_terms_130 rfl (lv_at hl 2 rfl) ?_
              refine va_get (D := D) (ci := 11) (v := .ref h_7) (C := RX11) (T := TX11) (N := 15) hx hb hg inX11 hown hK hP 0 rfl rfl 7 (by decide) (hg _ wd_690) (fun _ h9 => h9) rfl dX11_terms_131 ?_
              refine lv_iload hx hb dX11_terms_134 (lv_at hl 7 rfl) ?_
              refine va_put (D := D) (ci := 7) (v := .int a5) (ty := .int) (C := RX7) (T := TX7) (N := 14) hx hb hg inX7 tyX7 tyX7_ok nmX7 hown hK hP hD hS 1 rfl rfl 7 (by decide) (hg _ wd_380) (fun _ h9 => h9) rfl (by decide +kernel) rfl rfl (Nat.le_of_ble_eq_true rfl) dX11_terms_136 (fun H locs hP hD hS => ?_)
              have hP : va_P D vwCl [(h, .inr (11, [.ref h_0, .ref h_1, .ref h_2, .ref h_3, .ref h_4, .ref h_5, .ref h_6, .ref h_7, .ref h_8, .ref h_9, .ref h_10, .ref h_11, .ref h_12, .int h_13, .int h_14])), (h_7, .inr (7, [.ref h_7_0, .ref h_7_1, .ref h_7_2, .int a1, .int a2, .int a3, .int a4, .int a5, .long h_7_8, .long h_7_9, .int h_7_10, .ref h_7_11, .ref h_7_12, .ref h_7_13])), (h_8, .inr (8, [.ref h_8_0, .ref h_8_1, .ref h_8_2, .ref h_8_3, .ref h_8_4, .ref h_8_5, .ref h_8_6, .ref h_8_7, .int h_8_8, .int h_8_9, .int h_8_10, .int h_8_11, .ref h_8_12, .int h_8_13, .ref h_8_14, .int h_8_15, .int h_8_16]))] H := hP
              have hD : va_D A [(h, .inr (11, [.ref h_0, .ref h_1, .ref h_2, .ref h_3, .ref h_4, .ref h_5, .ref h_6, .ref h_7, .ref h_8, .ref h_9, .ref h_10, .ref h_11, .ref h_12, .int h_13, .int h_14])), (h_7, .inr (7, [.ref h_7_0, .ref h_7_1, .ref h_7_2, .int a1, .int a2, .int a3, .int a4, .int a5, .long h_7_8, .long h_7_9, .int h_7_10, .ref h_7_11, .ref h_7_12, .ref h_7_13])), (h_8, .inr (8, [.ref h_8_0, .ref h_8_1, .ref h_8_2, .ref h_8_3, .ref h_8_4, .ref h_8_5, .ref h_8_6, .ref h_8_7, .int h_8_8, .int h_8_9, .int h_8_10, .int h_8_11, .ref h_8_12, .int h_8_13, .ref h_8_14, .int h_8_15, .int h_8_16]))] := hD
              refine lv_aload_n hx hb dX11_terms_139 rfl (lv_at hl 2 rfl) ?_
              refine va_get (D := D) (ci := 11) (v := .ref h_8) (C := RX11) (T := TX11) (N := 15) hx hb hg inX11 hown hK hP 0 rfl rfl 8 (by decide) (hg _ wd_691) (fun _ h9 => h9) rfl dX11_terms_140 ?_
              refine lv_iload hx hb dX11_terms_143 (lv_at hl 8 rfl) ?_
              refine va_put (D := D) (ci := 8) (v := .int a6) (ty := .int) (C := RX8) (T := TX8) (N := 17) hx hb hg inX8 tyX8 tyX8_ok nmX8 hown hK hP hD hS 2 rfl rfl 13 (by decide) (hg _ wd_442) (fun _ h9 => h9) rfl (by decide +kernel) rfl rfl (Nat.le_of_ble_eq_true rfl) dX11_terms_145 (fun H locs hP hD hS => ?_)
              have hP : va_P D vwCl [(h, .inr (11, [.ref h_0, .ref h_1, .ref h_2, .ref h_3, .ref h_4, .ref h_5, .ref h_6, .ref h_7, .ref h_8, .ref h_9, .ref h_10, .ref h_11, .ref h_12, .int h_13, .int h_14])), (h_7, .inr (7, [.ref h_7_0, .ref h_7_1, .ref h_7_2, .int a1, .int a2, .int a3, .int a4, .int a5, .long h_7_8, .long h_7_9, .int h_7_10, .ref h_7_11, .ref h_7_12, .ref h_7_13])), (h_8, .inr (8, [.ref h_8_0, .ref h_8_1, .ref h_8_2, .ref h_8_3, .ref h_8_4, .ref h_8_5, .ref h_8_6, .ref h_8_7, .int h_8_8, .int h_8_9, .int h_8_10, .int h_8_11, .ref h_8_12, .int a6, .ref h_8_14, .int h_8_15, .int h_8_16]))] H := hP
              have hD : va_D A [(h, .inr (11, [.ref h_0, .ref h_1, .ref h_2, .ref h_3, .ref h_4, .ref h_5, .ref h_6, .ref h_7, .ref h_8, .ref h_9, .ref h_10, .ref h_11, .ref h_12, .int h_13, .int h_14])), (h_7, .inr (7, [.ref h_7_0, .ref h_7_1, .ref h_7_2, .int a1, .int a2, .int a3, .int a4, .int a5, .long h_7_8, .long h_7_9, .int h_7_10, .ref h_7_11, .ref h_7_12, .ref h_7_13])), (h_8, .inr (8, [.ref h_8_0, .ref h_8_1, .ref h_8_2, .ref h_8_3, .ref h_8_4, .ref h_8_5, .ref h_8_6, .ref h_8_7, .int h_8_8, .int h_8_9, .int h_8_10, .int h_8_11, .ref h_8_12, .int a6, .ref h_8_14, .int h_8_15, .int h_8_16]))] := hD
              refine lv_aload_n hx hb dX11_terms_148 rfl (lv_at hl 2 rfl) ?_
              refine va_get (D := D) (ci := 11) (v := .ref h_8) (C := RX11) (T := TX11) (N := 15) hx hb hg inX11 hown hK hP 0 rfl rfl 8 (by decide) (hg _ wd_691) (fun _ h9 => h9) rfl dX11_terms_149 ?_
              have hPc := hP.sub (ws' := [(h_8, .inr (8, [.ref h_8_0, .ref h_8_1, .ref h_8_2, .ref h_8_3, .ref h_8_4, .ref h_8_5, .ref h_8_6, .ref h_8_7, .int h_8_8, .int h_8_9, .int h_8_10, .int h_8_11, .ref h_8_12, .int a6, .ref h_8_14, .int h_8_15, .int h_8_16]))]) [2] rfl
              have hDc := hD.sub (ws' := [(h_8, .inr (8, [.ref h_8_0, .ref h_8_1, .ref h_8_2, .ref h_8_3, .ref h_8_4, .ref h_8_5, .ref h_8_6, .ref h_8_7, .int h_8_8, .int h_8_9, .int h_8_10, .int h_8_11, .ref h_8_12, .int a6, .ref h_8_14, .int h_8_15, .int h_8_16]))]) [2] (by decide) rfl
              have hFc := va_free (wc := [(h_8, .inr (8, [.ref h_8_0, .ref h_8_1, .ref h_8_2, .ref h_8_3, .ref h_8_4, .ref h_8_5, .ref h_8_6, .ref h_8_7, .int h_8_8, .int h_8_9, .int h_8_10, .int h_8_11, .ref h_8_12, .int a6, .ref h_8_14, .int h_8_15, .int h_8_16]))]) hD hS hA [2] rfl
              refine va_callv (va_runV (As := []) (rest := []) ⟨hx, hb, hml, hown, hg⟩ (c_forget l D ct h_8 h_8_0 h_8_1 h_8_2 h_8_3 h_8_4 h_8_5 h_8_6 h_8_7 h_8_8 h_8_9 h_8_10 h_8_11 h_8_12 a6 h_8_14 h_8_15 h_8_16 H.size ) (cwV 0 hg (gd_V wd_801 wd_802 wd_803 wd_114 wd_804) rfl rfl rfl (by decide +kernel) ⟨Nat.le_of_ble_eq_true rfl, Nat.le_of_ble_eq_true rfl⟩) (Wd_V hPc hKK hDc (va_recv hK hPc (ci := 8) (q0 := 0) rfl rfl)) rfl rfl hl.1 rfl (lv_room (Nat.le_of_ble_eq_true rfl)) dX11_terms_152 ⟨Nat.le_of_ble_eq_true rfl, Nat.le_of_ble_eq_true rfl⟩) hS (fun q _ h => hFc q h) hFc (fun u_66 t_66 H1 locs ht_66 hvm_66 hw_66 hB_66 hz_66 hk_66 hS => ?_)
              obtain ⟨hP, hD⟩ := va_join (wr := [(h, .inr (11, [.ref h_0, .ref h_1, .ref h_2, .ref h_3, .ref h_4, .ref h_5, .ref h_6, .ref h_7, .ref h_8, .ref h_9, .ref h_10, .ref h_11, .ref h_12, .int h_13, .int h_14])), (h_7, .inr (7, [.ref h_7_0, .ref h_7_1, .ref h_7_2, .int a1, .int a2, .int a3, .int a4, .int a5, .long h_7_8, .long h_7_9, .int h_7_10, .ref h_7_11, .ref h_7_12, .ref h_7_13]))]) (w1 := []) hP hD [2] [0, 1] rfl rfl (by decide) (by decide) hk_66 hFc (fun k q h => by simp at h) ⟨fun i j p q h => by simp at h, fun k q h => by simp at h⟩
              generalize H1 = H at hP hS ⊢
              have hP : va_P D vwCl [(h, .inr (11, [.ref h_0, .ref h_1, .ref h_2, .ref h_3, .ref h_4, .ref h_5, .ref h_6, .ref h_7, .ref h_8, .ref h_9, .ref h_10, .ref h_11, .ref h_12, .int h_13, .int h_14])), (h_7, .inr (7, [.ref h_7_0, .ref h_7_1, .ref h_7_2, .int a1, .int a2, .int a3, .int a4, .int a5, .long h_7_8, .long h_7_9, .int h_7_10, .ref h_7_11, .ref h_7_12, .ref h_7_13]))] H := hP
              have hD : va_D A [(h, .inr (11, [.ref h_0, .ref h_1, .ref h_2, .ref h_3, .ref h_4, .ref h_5, .ref h_6, .ref h_7, .ref h_8, .ref h_9, .ref h_10, .ref h_11, .ref h_12, .int h_13, .int h_14])), (h_7, .inr (7, [.ref h_7_0, .ref h_7_1, .ref h_7_2, .int a1, .int a2, .int a3, .int a4, .int a5, .long h_7_8, .long h_7_9, .int h_7_10, .ref h_7_11, .ref h_7_12, .ref h_7_13]))] := hD
              refine lv_aload_n hx hb dX11_terms_155 rfl (lv_at hl 2 rfl) ?_
              refine lv_iconst (v := 0) hx hb dX11_terms_156 (by decide) ?_
              have hPc := hP.sub (ws' := [(h, .inr (11, [.ref h_0, .ref h_1, .ref h_2, .ref h_3, .ref h_4, .ref h_5, .ref h_6, .ref h_7, .ref h_8, .ref h_9, .ref h_10, .ref h_11, .ref h_12, .int h_13, .int h_14]))]) [0] rfl
              have hDc := hD.sub (ws' := [(h, .inr (11, [.ref h_0, .ref h_1, .ref h_2, .ref h_3, .ref h_4, .ref h_5, .ref h_6, .ref h_7, .ref h_8, .ref h_9, .ref h_10, .ref h_11, .ref h_12, .int h_13, .int h_14]))]) [0] (by decide) rfl
              have hFc := va_free (wc := [(h, .inr (11, [.ref h_0, .ref h_1, .ref h_2, .ref h_3, .ref h_4, .ref h_5, .ref h_6, .ref h_7, .ref h_8, .ref h_9, .ref h_10, .ref h_11, .ref h_12, .int h_13, .int h_14]))]) hD hS hA [0] rfl
              refine va_calli (va_runV (As := [.int 0]) (rest := []) ⟨hx, hb, hml, hown, hg⟩ (c_accept l D ct h 0 h_0 h_1 h_2 h_3 h_4 h_5 h_6 h_7 h_8 h_9 h_10 h_11 h_12 h_13 h_14 H.size ) (cwV 1 hg (gd_V wd_805 wd_807 wd_5 wd_107 wd_808) rfl rfl rfl (by decide +kernel) ⟨Nat.le_of_ble_eq_true rfl, Nat.le_of_ble_eq_true rfl⟩) (Wd_V hPc hKK hDc (va_recv hK hPc (ci := 11) (q0 := 0) rfl rfl)) rfl rfl hl.1 rfl (lv_room (Nat.le_of_ble_eq_true rfl)) dX11_terms_157 ⟨Nat.le_of_ble_eq_true rfl, Nat.le_of_ble_eq_true rfl⟩) hS (fun q _ h => hFc q h) hFc (fun r_67 u_67 t_67 H1 locs ht_67 hvm_67 hw_67 hB_67 hz_67 hk_67 hS => ?_)
              obtain ⟨hP, hD⟩ := va_join (wr := [(h_7, .inr (7, [.ref h_7_0, .ref h_7_1, .ref h_7_2, .int a1, .int a2, .int a3, .int a4, .int a5, .long h_7_8, .long h_7_9, .int h_7_10, .ref h_7_11, .ref h_7_12, .ref h_7_13]))]) (w1 := []) hP hD [0] [1] rfl rfl (by decide) (by decide) hk_67 hFc (fun k q h => by simp at h) ⟨fun i j p q h => by simp at h, fun k q h => by simp at h⟩
              generalize H1 = H at hP hS ⊢
              have hP : va_P D vwCl [(h_7, .inr (7, [.ref h_7_0, .ref h_7_1, .ref h_7_2, .int a1, .int a2, .int a3, .int a4, .int a5, .long h_7_8, .long h_7_9, .int h_7_10, .ref h_7_11, .ref h_7_12, .ref h_7_13]))] H := hP
              have hD : va_D A [(h_7, .inr (7, [.ref h_7_0, .ref h_7_1, .ref h_7_2, .int a1, .int a2, .int a3, .int a4, .int a5, .long h_7_8, .long h_7_9, .int h_7_10, .ref h_7_11, .ref h_7_12, .ref h_7_13]))] := hD
              subst hw_67
              exact W.iret (v := 0) hx hb hr (fun t ht hW => ⟨⟨0, (), rfl, (by simp [sp_terms, c_2, c_23, c_44, c_52, c_60, c_65]), trivial⟩, hS.F ht⟩) hS.2.2 dX11_terms_160
            · refine lv_aload_n hx hb dX11_terms_91 rfl (lv_at hl 2 rfl) ?_
              refine lv_iconst (v := (-1)) hx hb dX11_terms_92 (by decide) ?_
              have hPc := hP.sub (ws' := [(h, .inr (11, [.ref h_0, .ref h_1, .ref h_2, .ref h_3, .ref h_4, .ref h_5, .ref h_6, .ref h_7, .ref h_8, .ref h_9, .ref h_10, .ref h_11, .ref h_12, .int h_13, .int h_14]))]) [0] rfl
              have hDc := hD.sub (ws' := [(h, .inr (11, [.ref h_0, .ref h_1, .ref h_2, .ref h_3, .ref h_4, .ref h_5, .ref h_6, .ref h_7, .ref h_8, .ref h_9, .ref h_10, .ref h_11, .ref h_12, .int h_13, .int h_14]))]) [0] (by decide) rfl
              have hFc := va_free (wc := [(h, .inr (11, [.ref h_0, .ref h_1, .ref h_2, .ref h_3, .ref h_4, .ref h_5, .ref h_6, .ref h_7, .ref h_8, .ref h_9, .ref h_10, .ref h_11, .ref h_12, .int h_13, .int h_14]))]) hD hS hA [0] rfl
              refine va_calli (va_runV (As := [.int (-1)]) (rest := []) ⟨hx, hb, hml, hown, hg⟩ (c_refuse l D ct h (-1) h_0 h_1 h_2 h_3 h_4 h_5 h_6 h_7 h_8 h_9 h_10 h_11 h_12 h_13 h_14 s.heap.size ) (cwV 1 hg (gd_V wd_778 wd_780 wd_3 wd_107 wd_781) rfl rfl rfl (by decide +kernel) ⟨Nat.le_of_ble_eq_true rfl, Nat.le_of_ble_eq_true rfl⟩) (Wd_V hPc hKK hDc (va_recv hK hPc (ci := 11) (q0 := 0) rfl rfl)) rfl rfl hl.1 rfl (lv_room (Nat.le_of_ble_eq_true rfl)) dX11_terms_93 ⟨Nat.le_of_ble_eq_true rfl, Nat.le_of_ble_eq_true rfl⟩) hS (fun q _ h => hFc q h) hFc (fun r_68 u_68 t_68 H1 locs ht_68 hvm_68 hw_68 hB_68 hz_68 hk_68 hS => ?_)
              obtain ⟨hP, hD⟩ := va_join (wr := [(h_7, .inr (7, [.ref h_7_0, .ref h_7_1, .ref h_7_2, .int h_7_3, .int h_7_4, .int h_7_5, .int h_7_6, .int h_7_7, .long h_7_8, .long h_7_9, .int h_7_10, .ref h_7_11, .ref h_7_12, .ref h_7_13])), (h_8, .inr (8, [.ref h_8_0, .ref h_8_1, .ref h_8_2, .ref h_8_3, .ref h_8_4, .ref h_8_5, .ref h_8_6, .ref h_8_7, .int h_8_8, .int h_8_9, .int h_8_10, .int h_8_11, .ref h_8_12, .int h_8_13, .ref h_8_14, .int h_8_15, .int h_8_16]))]) (w1 := []) hP hD [0] [1, 2] rfl rfl (by decide) (by decide) hk_68 hFc (fun k q h => by simp at h) ⟨fun i j p q h => by simp at h, fun k q h => by simp at h⟩
              generalize H1 = H at hP hS ⊢
              have hP : va_P D vwCl [(h_7, .inr (7, [.ref h_7_0, .ref h_7_1, .ref h_7_2, .int h_7_3, .int h_7_4, .int h_7_5, .int h_7_6, .int h_7_7, .long h_7_8, .long h_7_9, .int h_7_10, .ref h_7_11, .ref h_7_12, .ref h_7_13])), (h_8, .inr (8, [.ref h_8_0, .ref h_8_1, .ref h_8_2, .ref h_8_3, .ref h_8_4, .ref h_8_5, .ref h_8_6, .ref h_8_7, .int h_8_8, .int h_8_9, .int h_8_10, .int h_8_11, .ref h_8_12, .int h_8_13, .ref h_8_14, .int h_8_15, .int h_8_16]))] H := hP
              have hD : va_D A [(h_7, .inr (7, [.ref h_7_0, .ref h_7_1, .ref h_7_2, .int h_7_3, .int h_7_4, .int h_7_5, .int h_7_6, .int h_7_7, .long h_7_8, .long h_7_9, .int h_7_10, .ref h_7_11, .ref h_7_12, .ref h_7_13])), (h_8, .inr (8, [.ref h_8_0, .ref h_8_1, .ref h_8_2, .ref h_8_3, .ref h_8_4, .ref h_8_5, .ref h_8_6, .ref h_8_7, .int h_8_8, .int h_8_9, .int h_8_10, .int h_8_11, .ref h_8_12, .int h_8_13, .ref h_8_14, .int h_8_15, .int h_8_16]))] := hD
              subst hw_68
              exact W.iret (v := (-1)) hx hb hr (fun t ht hW => ⟨⟨(-1), (), rfl, (by simp [sp_terms, c_2, c_23, c_44, c_52, c_60, c_65]), trivial⟩, hS.F ht⟩) hS.2.2 dX11_terms_96
def sp_end (a1 : Int32) : Int32 := if a1 < 0 then -1 else if a1 ≤ 0 then a1 else -1
theorem dX11_end_0 : decode cX11_end 0 = .ok (.iload_n 1, 1) := by decide +kernel
theorem dX11_end_1 : decode cX11_end 1 = .ok (.ifCond .lt 14, 3) := by decide +kernel
theorem dX11_end_15 : decode cX11_end 15 = .ok (.iconst (-1), 1) := by decide +kernel
theorem dX11_end_16 : decode cX11_end 16 = .ok (.ireturn, 1) := by decide +kernel
theorem dX11_end_4 : decode cX11_end 4 = .ok (.iload_n 1, 1) := by decide +kernel
theorem dX11_end_5 : decode cX11_end 5 = .ok (.aload_n 0, 1) := by decide +kernel
theorem dX11_end_6 : decode cX11_end 6 = .ok (.getfield 12, 3) := by decide +kernel
theorem wd_683 : (Cond.fieldLink "VoteRoll" 12 "VoteRoll" "tape" "LVoteRoll$Tape;") ∈ gl := gl_at 683 (by decide +kernel) (by decide +kernel)
theorem dX11_end_9 : decode cX11_end 9 = .ok (.getfield 107, 3) := by decide +kernel
theorem wd_144 : (Cond.fieldLink "VoteRoll" 107 "VoteRoll$Tape" "size" "I") ∈ gl := gl_at 144 (by decide +kernel) (by decide +kernel)
theorem dX11_end_12 : decode cX11_end 12 = .ok (.if_icmp .le 5, 3) := by decide +kernel
theorem dX11_end_17 : decode cX11_end 17 = .ok (.aload_n 0, 1) := by decide +kernel
theorem dX11_end_18 : decode cX11_end 18 = .ok (.getfield 12, 3) := by decide +kernel
theorem dX11_end_21 : decode cX11_end 21 = .ok (.iload_n 1, 1) := by decide +kernel
theorem dX11_end_22 : decode cX11_end 22 = .ok (.putfield 107, 3) := by decide +kernel
theorem dX11_end_25 : decode cX11_end 25 = .ok (.iload_n 1, 1) := by decide +kernel
theorem dX11_end_26 : decode cX11_end 26 = .ok (.ireturn, 1) := by decide +kernel
set_option maxHeartbeats 4000000 in
set_option maxRecDepth 100000 in
theorem c_end (l : Launch) (D : va_G) (ct : Nat → ClassId) (h : Nat) (a1 : Int32) (h_0 : Nat) (h_1 : Nat) (h_2 : Nat) (h_3 : Nat) (h_4 : Nat) (h_5 : Nat) (h_6 : Nat) (h_7 : Nat) (h_8 : Nat) (h_9 : Nat) (h_10 : Nat) (h_11 : Nat) (h_12 : Nat) (h_13 : Int32) (h_14 : Int32) (h_0_0 : Nat) (h_0_2 : Int32) (h_0_3 : Int32) (h_0_4 : Int32) (sz : Nat)  : Met l yX11_end (wk yX11_end cX11_end 2 (some .int)) { frames := 0, cells := 0, slots := 0, locals := 0 } (va_Pc [.ref h, .int a1] (Wd D [(h, .inr (11, [.ref h_0, .ref h_1, .ref h_2, .ref h_3, .ref h_4, .ref h_5, .ref h_6, .ref h_7, .ref h_8, .ref h_9, .ref h_10, .ref h_11, .ref h_12, .int h_13, .int h_14])), (h_0, .inr (10, [.ref h_0_0, .int 0, .int h_0_2, .int h_0_3, .int h_0_4]))] ct sz)) (va_Qi (fun (r : Int32) (u : Unit) => r = sp_end a1) (fun _ _ => True) (va_A [(h, .inr (11, [.ref h_0, .ref h_1, .ref h_2, .ref h_3, .ref h_4, .ref h_5, .ref h_6, .ref h_7, .ref h_8, .ref h_9, .ref h_10, .ref h_11, .ref h_12, .int h_13, .int h_14])), (h_0, .inr (10, [.ref h_0_0, .int 0, .int h_0_2, .int h_0_3, .int h_0_4]))] sz)) 0 0 (va_A [(h, .inr (11, [.ref h_0, .ref h_1, .ref h_2, .ref h_3, .ref h_4, .ref h_5, .ref h_6, .ref h_7, .ref h_8, .ref h_9, .ref h_10, .ref h_11, .ref h_12, .int h_13, .int h_14])), (h_0, .inr (10, [.ref h_0_0, .int 0, .int h_0_2, .int h_0_3, .int h_0_4]))] sz) := by
  refine Met.ofW (cc := cX11_end) (maxL := 2) (ret := (some .int)) (by decide) rfl ?_
  intro p e s m args below meth c s₁ B hml hv
  obtain ⟨rfl, hsz, hP, hKK, hD0⟩ := hv
  have hK := hKK.1
  have hx := B.exec
  have hb := B.bytes
  have hr := B.returns
  have hg : ∀ w ∈ gl, w.before _ s = true := fun w h => atoms_spec (ws := wk yX11_end cX11_end 2 (some .int)) B.pre w (List.mem_cons_of_mem _ h)
  have hown : s.vm.findClass RX11 = some m.cls := findClass_of_methodNamed B.named
  have hlocks := B.notSynchronized
  subst hsz
  have hD := hD0.self (sz := s.heap.size)
  generalize hAe : va_A [(h, .inr (11, [.ref h_0, .ref h_1, .ref h_2, .ref h_3, .ref h_4, .ref h_5, .ref h_6, .ref h_7, .ref h_8, .ref h_9, .ref h_10, .ref h_11, .ref h_12, .int h_13, .int h_14])), (h_0, .inr (10, [.ref h_0_0, .int 0, .int h_0_2, .int h_0_3, .int h_0_4]))] s.heap.size = A at hD ⊢
  have hA : ∀ q : Nat, s.heap.size ≤ q → A q := fun q h => by rw [← hAe]; exact Or.inr h
  have hS : va_S A s.heap s.heap [] := va_S.rf
  have hl := lv_entry ([.ref h, .int a1]) (n := 2) (Nat.le_of_ble_eq_true rfl)
  rw [lg_entry_eq]
  generalize (lg_sl ([.ref h, .int a1]) ++ List.replicate (2 - (lg_sl ([.ref h, .int a1])).length) Slot.unset).toArray = ls at hl ⊢
  have hl : lv_has ls 2 [(0, .ref h), (1, .int a1)] := hl
  refine lv_iload_n hx hb dX11_end_0 rfl (lv_at hl 1 rfl) ?_
  refine lv_if_lt (tgt := 15) hx hb dX11_end_1 (by decide) (fun c_1 => ?_) (fun c_1 => ?_)
  · refine lv_iconst (v := (-1)) hx hb dX11_end_15 (by decide) ?_
    exact W.iret (v := (-1)) hx hb hr (fun t ht hW => ⟨⟨(-1), (), rfl, (by simp [sp_end, c_1]), trivial⟩, hS.F ht⟩) hS.2.2 dX11_end_16
  · refine lv_iload_n hx hb dX11_end_4 rfl (lv_at hl 1 rfl) ?_
    refine lv_aload_n hx hb dX11_end_5 rfl (lv_at hl 0 rfl) ?_
    refine va_get (D := D) (ci := 11) (v := .ref h_0) (C := RX11) (T := TX11) (N := 15) hx hb hg inX11 hown hK hP 0 rfl rfl 0 (by decide) (hg _ wd_683) (fun _ h9 => h9) rfl dX11_end_6 ?_
    refine va_get (D := D) (ci := 10) (v := .int 0) (C := RX10) (T := TX10) (N := 5) hx hb hg inX10 hown hK hP 1 rfl rfl 1 (by decide) (hg _ wd_144) (fun _ h9 => h9) rfl dX11_end_9 ?_
    refine lv_icmp_le (tgt := 17) hx hb dX11_end_12 (by decide) (fun c_2 => ?_) (fun c_2 => ?_)
    · refine lv_aload_n hx hb dX11_end_17 rfl (lv_at hl 0 rfl) ?_
      refine va_get (D := D) (ci := 11) (v := .ref h_0) (C := RX11) (T := TX11) (N := 15) hx hb hg inX11 hown hK hP 0 rfl rfl 0 (by decide) (hg _ wd_683) (fun _ h9 => h9) rfl dX11_end_18 ?_
      refine lv_iload_n hx hb dX11_end_21 rfl (lv_at hl 1 rfl) ?_
      refine va_put (D := D) (ci := 10) (v := .int a1) (ty := .int) (C := RX10) (T := TX10) (N := 5) hx hb hg inX10 tyX10 tyX10_ok nmX10 hown hK hP hD hS 1 rfl rfl 1 (by decide) (hg _ wd_144) (fun _ h9 => h9) rfl (by decide +kernel) rfl rfl (Nat.le_of_ble_eq_true rfl) dX11_end_22 (fun H locs hP hD hS => ?_)
      have hP : va_P D vwCl [(h, .inr (11, [.ref h_0, .ref h_1, .ref h_2, .ref h_3, .ref h_4, .ref h_5, .ref h_6, .ref h_7, .ref h_8, .ref h_9, .ref h_10, .ref h_11, .ref h_12, .int h_13, .int h_14])), (h_0, .inr (10, [.ref h_0_0, .int a1, .int h_0_2, .int h_0_3, .int h_0_4]))] H := hP
      have hD : va_D A [(h, .inr (11, [.ref h_0, .ref h_1, .ref h_2, .ref h_3, .ref h_4, .ref h_5, .ref h_6, .ref h_7, .ref h_8, .ref h_9, .ref h_10, .ref h_11, .ref h_12, .int h_13, .int h_14])), (h_0, .inr (10, [.ref h_0_0, .int a1, .int h_0_2, .int h_0_3, .int h_0_4]))] := hD
      refine lv_iload_n hx hb dX11_end_25 rfl (lv_at hl 1 rfl) ?_
      exact W.iret (v := a1) hx hb hr (fun t ht hW => ⟨⟨a1, (), rfl, (by simp [sp_end, c_1, c_2]), trivial⟩, hS.F ht⟩) hS.2.2 dX11_end_26
    · refine lv_iconst (v := (-1)) hx hb dX11_end_15 (by decide) ?_
      exact W.iret (v := (-1)) hx hb hr (fun t ht hW => ⟨⟨(-1), (), rfl, (by simp [sp_end, c_1, c_2]), trivial⟩, hS.F ht⟩) hS.2.2 dX11_end_16
def sp_fault  : Int32 := -1
theorem dX11_fault_0 : decode cX11_fault 0 = .ok (.aload_n 0, 1) := by decide +kernel
theorem dX11_fault_1 : decode cX11_fault 1 = .ok (.getfield 100, 3) := by decide +kernel
theorem wd_696 : (Cond.fieldLink "VoteRoll" 100 "VoteRoll" "faultPlace" "I") ∈ gl := gl_at 696 (by decide +kernel) (by decide +kernel)
theorem dX11_fault_4 : decode cX11_fault 4 = .ok (.ireturn, 1) := by decide +kernel
set_option maxHeartbeats 4000000 in
set_option maxRecDepth 100000 in
theorem c_fault (l : Launch) (D : va_G) (ct : Nat → ClassId) (h : Nat) (h_0 : Nat) (h_1 : Nat) (h_2 : Nat) (h_3 : Nat) (h_4 : Nat) (h_5 : Nat) (h_6 : Nat) (h_7 : Nat) (h_8 : Nat) (h_9 : Nat) (h_10 : Nat) (h_11 : Nat) (h_12 : Nat) (h_14 : Int32) (sz : Nat)  : Met l yX11_fault (wk yX11_fault cX11_fault 1 (some .int)) { frames := 0, cells := 0, slots := 0, locals := 0 } (va_Pc [.ref h] (Wd D [(h, .inr (11, [.ref h_0, .ref h_1, .ref h_2, .ref h_3, .ref h_4, .ref h_5, .ref h_6, .ref h_7, .ref h_8, .ref h_9, .ref h_10, .ref h_11, .ref h_12, .int (-1), .int h_14]))] ct sz)) (va_Qi (fun (r : Int32) (u : Unit) => r = sp_fault) (fun _ _ => True) (va_A [(h, .inr (11, [.ref h_0, .ref h_1, .ref h_2, .ref h_3, .ref h_4, .ref h_5, .ref h_6, .ref h_7, .ref h_8, .ref h_9, .ref h_10, .ref h_11, .ref h_12, .int (-1), .int h_14]))] sz)) 0 0 (va_A [(h, .inr (11, [.ref h_0, .ref h_1, .ref h_2, .ref h_3, .ref h_4, .ref h_5, .ref h_6, .ref h_7, .ref h_8, .ref h_9, .ref h_10, .ref h_11, .ref h_12, .int (-1), .int h_14]))] sz) := by
  refine Met.ofW (cc := cX11_fault) (maxL := 1) (ret := (some .int)) (by decide) rfl ?_
  intro p e s m args below meth c s₁ B hml hv
  obtain ⟨rfl, hsz, hP, hKK, hD0⟩ := hv
  have hK := hKK.1
  have hx := B.exec
  have hb := B.bytes
  have hr := B.returns
  have hg : ∀ w ∈ gl, w.before _ s = true := fun w h => atoms_spec (ws := wk yX11_fault cX11_fault 1 (some .int)) B.pre w (List.mem_cons_of_mem _ h)
  have hown : s.vm.findClass RX11 = some m.cls := findClass_of_methodNamed B.named
  have hlocks := B.notSynchronized
  subst hsz
  have hD := hD0.self (sz := s.heap.size)
  generalize hAe : va_A [(h, .inr (11, [.ref h_0, .ref h_1, .ref h_2, .ref h_3, .ref h_4, .ref h_5, .ref h_6, .ref h_7, .ref h_8, .ref h_9, .ref h_10, .ref h_11, .ref h_12, .int (-1), .int h_14]))] s.heap.size = A at hD ⊢
  have hA : ∀ q : Nat, s.heap.size ≤ q → A q := fun q h => by rw [← hAe]; exact Or.inr h
  have hS : va_S A s.heap s.heap [] := va_S.rf
  have hl := lv_entry ([.ref h]) (n := 1) (Nat.le_of_ble_eq_true rfl)
  rw [lg_entry_eq]
  generalize (lg_sl ([.ref h]) ++ List.replicate (1 - (lg_sl ([.ref h])).length) Slot.unset).toArray = ls at hl ⊢
  have hl : lv_has ls 1 [(0, .ref h)] := hl
  refine lv_aload_n hx hb dX11_fault_0 rfl (lv_at hl 0 rfl) ?_
  refine va_get (D := D) (ci := 11) (v := .int (-1)) (C := RX11) (T := TX11) (N := 15) hx hb hg inX11 hown hK hP 0 rfl rfl 13 (by decide) (hg _ wd_696) (fun _ h9 => h9) rfl dX11_fault_1 ?_
  exact W.iret (v := (-1)) hx hb hr (fun t ht hW => ⟨⟨(-1), (), rfl, (by simp [sp_fault]), trivial⟩, hS.F ht⟩) hS.2.2 dX11_fault_4
def sp_folded (a1 : Int32) (a2 : Int32) (a3 : Int32) : Int32 := -1
theorem dX11_folded_0 : decode cX11_folded 0 = .ok (.aload_n 0, 1) := by decide +kernel
theorem dX11_folded_1 : decode cX11_folded 1 = .ok (.getfield 39, 3) := by decide +kernel
theorem wd_688 : (Cond.fieldLink "VoteRoll" 39 "VoteRoll" "book" "LVoteRoll$Book;") ∈ gl := gl_at 688 (by decide +kernel) (by decide +kernel)
theorem dX11_folded_4 : decode cX11_folded 4 = .ok (.iload_n 1, 1) := by decide +kernel
theorem dX11_folded_5 : decode cX11_folded 5 = .ok (.invokevirtual 190, 3) := by decide +kernel
theorem wd_995 : (Cond.code yX1_holds cX1_holds 2 (some .boolean)) ∈ gl := gl_at 995 (by decide +kernel) (by decide +kernel)
theorem wd_992 : (Cond.methodLink "VoteRoll" 190 yX1_holds) ∈ gl := gl_at 992 (by decide +kernel) (by decide +kernel)
theorem wd_111 : (Cond.initialized "VoteRoll$Book") ∈ gl := gl_at 111 (by decide +kernel) (by decide +kernel)
theorem wd_993 : (Cond.instanceMethod yX1_holds) ∈ gl := gl_at 993 (by decide +kernel) (by decide +kernel)
theorem wd_994 : (Cond.selects "VoteRoll$Book" yX1_holds yX1_holds) ∈ gl := gl_at 994 (by decide +kernel) (by decide +kernel)
theorem dX11_folded_8 : decode cX11_folded 8 = .ok (.ifCond .eq 12, 3) := by decide +kernel
theorem dX11_folded_20 : decode cX11_folded 20 = .ok (.iconst (-1), 1) := by decide +kernel
theorem dX11_folded_21 : decode cX11_folded 21 = .ok (.ireturn, 1) := by decide +kernel
set_option maxHeartbeats 4000000 in
set_option maxRecDepth 100000 in
theorem c_folded (l : Launch) (D : va_G) (ct : Nat → ClassId) (h : Nat) (a1 : Int32) (a2 : Int32) (a3 : Int32) (h_0 : Nat) (h_1 : Nat) (h_2 : Nat) (h_3 : Nat) (h_4 : Nat) (h_5 : Nat) (h_6 : Nat) (h_7 : Nat) (h_8 : Nat) (h_9 : Nat) (h_10 : Nat) (h_11 : Nat) (h_12 : Nat) (h_13 : Int32) (h_14 : Int32) (h_5_0 : Nat) (h_5_1 : Nat) (h_5_2 : Nat) (h_5_3 : Nat) (h_5_4 : Nat) (h_5_5 : Nat) (h_5_6 : Nat) (h_5_7 : Nat) (h_5_8 : Nat) (h_5_9 : Nat) (h_5_10 : Nat) (h_5_11 : Nat) (h_5_12 : Nat) (sz : Nat)  : Met l yX11_folded (wk yX11_folded cX11_folded 5 (some .int)) { frames := 1, cells := 0, slots := 0, locals := 21 } (va_Pc [.ref h, .int a1, .int a2, .int a3] (Wd D [(h, .inr (11, [.ref h_0, .ref h_1, .ref h_2, .ref h_3, .ref h_4, .ref h_5, .ref h_6, .ref h_7, .ref h_8, .ref h_9, .ref h_10, .ref h_11, .ref h_12, .int h_13, .int h_14])), (h_5, .inr (1, [.ref h_5_0, .ref h_5_1, .ref h_5_2, .ref h_5_3, .ref h_5_4, .ref h_5_5, .ref h_5_6, .ref h_5_7, .ref h_5_8, .ref h_5_9, .ref h_5_10, .ref h_5_11, .ref h_5_12, .int 0]))] ct sz)) (va_Qi (fun (r : Int32) (u : Unit) => r = sp_folded a1 a2 a3) (fun _ _ => True) (va_A [(h, .inr (11, [.ref h_0, .ref h_1, .ref h_2, .ref h_3, .ref h_4, .ref h_5, .ref h_6, .ref h_7, .ref h_8, .ref h_9, .ref h_10, .ref h_11, .ref h_12, .int h_13, .int h_14])), (h_5, .inr (1, [.ref h_5_0, .ref h_5_1, .ref h_5_2, .ref h_5_3, .ref h_5_4, .ref h_5_5, .ref h_5_6, .ref h_5_7, .ref h_5_8, .ref h_5_9, .ref h_5_10, .ref h_5_11, .ref h_5_12, .int 0]))] sz)) 0 0 (va_A [(h, .inr (11, [.ref h_0, .ref h_1, .ref h_2, .ref h_3, .ref h_4, .ref h_5, .ref h_6, .ref h_7, .ref h_8, .ref h_9, .ref h_10, .ref h_11, .ref h_12, .int h_13, .int h_14])), (h_5, .inr (1, [.ref h_5_0, .ref h_5_1, .ref h_5_2, .ref h_5_3, .ref h_5_4, .ref h_5_5, .ref h_5_6, .ref h_5_7, .ref h_5_8, .ref h_5_9, .ref h_5_10, .ref h_5_11, .ref h_5_12, .int 0]))] sz) := by
  refine Met.ofW (cc := cX11_folded) (maxL := 5) (ret := (some .int)) (by decide) rfl ?_
  intro p e s m args below meth c s₁ B hml hv
  obtain ⟨rfl, hsz, hP, hKK, hD0⟩ := hv
  have hK := hKK.1
  have hx := B.exec
  have hb := B.bytes
  have hr := B.returns
  have hg : ∀ w ∈ gl, w.before _ s = true := fun w h => atoms_spec (ws := wk yX11_folded cX11_folded 5 (some .int)) B.pre w (List.mem_cons_of_mem _ h)
  have hown : s.vm.findClass RX11 = some m.cls := findClass_of_methodNamed B.named
  have hlocks := B.notSynchronized
  subst hsz
  have hD := hD0.self (sz := s.heap.size)
  generalize hAe : va_A [(h, .inr (11, [.ref h_0, .ref h_1, .ref h_2, .ref h_3, .ref h_4, .ref h_5, .ref h_6, .ref h_7, .ref h_8, .ref h_9, .ref h_10, .ref h_11, .ref h_12, .int h_13, .int h_14])), (h_5, .inr (1, [.ref h_5_0, .ref h_5_1, .ref h_5_2, .ref h_5_3, .ref h_5_4, .ref h_5_5, .ref h_5_6, .ref h_5_7, .ref h_5_8, .ref h_5_9, .ref h_5_10, .ref h_5_11, .ref h_5_12, .int 0]))] s.heap.size = A at hD ⊢
  have hA : ∀ q : Nat, s.heap.size ≤ q → A q := fun q h => by rw [← hAe]; exact Or.inr h
  have hS : va_S A s.heap s.heap [] := va_S.rf
  have hl := lv_entry ([.ref h, .int a1, .int a2, .int a3]) (n := 5) (Nat.le_of_ble_eq_true rfl)
  rw [lg_entry_eq]
  generalize (lg_sl ([.ref h, .int a1, .int a2, .int a3]) ++ List.replicate (5 - (lg_sl ([.ref h, .int a1, .int a2, .int a3])).length) Slot.unset).toArray = ls at hl ⊢
  have hl : lv_has ls 5 [(0, .ref h), (1, .int a1), (2, .int a2), (3, .int a3)] := hl
  refine lv_aload_n hx hb dX11_folded_0 rfl (lv_at hl 0 rfl) ?_
  refine va_get (D := D) (ci := 11) (v := .ref h_5) (C := RX11) (T := TX11) (N := 15) hx hb hg inX11 hown hK hP 0 rfl rfl 5 (by decide) (hg _ wd_688) (fun _ h9 => h9) rfl dX11_folded_1 ?_
  refine lv_iload_n hx hb dX11_folded_4 rfl (lv_at hl 1 rfl) ?_
  have hPc := hP.sub (ws' := [(h_5, .inr (1, [.ref h_5_0, .ref h_5_1, .ref h_5_2, .ref h_5_3, .ref h_5_4, .ref h_5_5, .ref h_5_6, .ref h_5_7, .ref h_5_8, .ref h_5_9, .ref h_5_10, .ref h_5_11, .ref h_5_12, .int 0]))]) [1] rfl
  refine z_calli (va_runV (As := [.int a1]) (rest := []) ⟨hx, hb, hml, hown, hg⟩ (c_holds0 l D ct h_5 a1 h_5_0 h_5_1 h_5_2 h_5_3 h_5_4 h_5_5 h_5_6 h_5_7 h_5_8 h_5_9 h_5_10 h_5_11 h_5_12 ) (cwV 1 hg (gd_V wd_992 wd_993 wd_994 wd_111 wd_995) rfl rfl rfl (by decide +kernel) ⟨Nat.le_of_ble_eq_true rfl, Nat.le_of_ble_eq_true rfl⟩) (Wr_V hPc hKK (va_recv hK hPc (ci := 1) (q0 := 0) rfl rfl)) rfl rfl hl.1 rfl (lv_room (Nat.le_of_ble_eq_true rfl)) dX11_folded_5 ⟨Nat.le_of_ble_eq_true rfl, Nat.le_of_ble_eq_true rfl⟩) (fun r_1 hw_1 => ?_)
  subst hw_1
  refine lv_if_eq (tgt := 20) hx hb dX11_folded_8 (by decide) (fun _ => ?_) (fun h => absurd (by decide) h)
  refine lv_iconst (v := (-1)) hx hb dX11_folded_20 (by decide) ?_
  exact W.iret (v := (-1)) hx hb hr (fun t ht hW => ⟨⟨(-1), (), rfl, (by simp [sp_folded]), trivial⟩, hS.F ht⟩) hS.2.2 dX11_folded_21
def sp_odds (a1 : Int32) (a2 : Int32) (a3 : Int32) : Int64 := -1
theorem dX11_odds_0 : decode cX11_odds 0 = .ok (.aload_n 0, 1) := by decide +kernel
theorem dX11_odds_1 : decode cX11_odds 1 = .ok (.getfield 39, 3) := by decide +kernel
theorem dX11_odds_4 : decode cX11_odds 4 = .ok (.iload_n 1, 1) := by decide +kernel
theorem dX11_odds_5 : decode cX11_odds 5 = .ok (.invokevirtual 190, 3) := by decide +kernel
theorem dX11_odds_8 : decode cX11_odds 8 = .ok (.ifCond .eq 28, 3) := by decide +kernel
theorem dX11_odds_36 : decode cX11_odds 36 = .ok (.ldc2_w 228, 3) := by decide +kernel
theorem wd_1011 : (Cond.constantLong "VoteRoll" 228 (-1 : Int64)) ∈ gl := gl_at 1011 (by decide +kernel) (by decide +kernel)
theorem dX11_odds_39 : decode cX11_odds 39 = .ok (.lreturn, 1) := by decide +kernel
set_option maxHeartbeats 4000000 in
set_option maxRecDepth 100000 in
theorem c_odds (l : Launch) (D : va_G) (ct : Nat → ClassId) (h : Nat) (a1 : Int32) (a2 : Int32) (a3 : Int32) (h_0 : Nat) (h_1 : Nat) (h_2 : Nat) (h_3 : Nat) (h_4 : Nat) (h_5 : Nat) (h_6 : Nat) (h_7 : Nat) (h_8 : Nat) (h_9 : Nat) (h_10 : Nat) (h_11 : Nat) (h_12 : Nat) (h_13 : Int32) (h_14 : Int32) (h_5_0 : Nat) (h_5_1 : Nat) (h_5_2 : Nat) (h_5_3 : Nat) (h_5_4 : Nat) (h_5_5 : Nat) (h_5_6 : Nat) (h_5_7 : Nat) (h_5_8 : Nat) (h_5_9 : Nat) (h_5_10 : Nat) (h_5_11 : Nat) (h_5_12 : Nat) (sz : Nat)  : Met l yX11_odds (wk yX11_odds cX11_odds 5 (some .long)) { frames := 1, cells := 0, slots := 0, locals := 21 } (va_Pc [.ref h, .int a1, .int a2, .int a3] (Wd D [(h, .inr (11, [.ref h_0, .ref h_1, .ref h_2, .ref h_3, .ref h_4, .ref h_5, .ref h_6, .ref h_7, .ref h_8, .ref h_9, .ref h_10, .ref h_11, .ref h_12, .int h_13, .int h_14])), (h_5, .inr (1, [.ref h_5_0, .ref h_5_1, .ref h_5_2, .ref h_5_3, .ref h_5_4, .ref h_5_5, .ref h_5_6, .ref h_5_7, .ref h_5_8, .ref h_5_9, .ref h_5_10, .ref h_5_11, .ref h_5_12, .int 0]))] ct sz)) (va_Ql (fun (r : Int64) (u : Unit) => r = sp_odds a1 a2 a3) (fun _ _ => True) (va_A [(h, .inr (11, [.ref h_0, .ref h_1, .ref h_2, .ref h_3, .ref h_4, .ref h_5, .ref h_6, .ref h_7, .ref h_8, .ref h_9, .ref h_10, .ref h_11, .ref h_12, .int h_13, .int h_14])), (h_5, .inr (1, [.ref h_5_0, .ref h_5_1, .ref h_5_2, .ref h_5_3, .ref h_5_4, .ref h_5_5, .ref h_5_6, .ref h_5_7, .ref h_5_8, .ref h_5_9, .ref h_5_10, .ref h_5_11, .ref h_5_12, .int 0]))] sz)) 0 0 (va_A [(h, .inr (11, [.ref h_0, .ref h_1, .ref h_2, .ref h_3, .ref h_4, .ref h_5, .ref h_6, .ref h_7, .ref h_8, .ref h_9, .ref h_10, .ref h_11, .ref h_12, .int h_13, .int h_14])), (h_5, .inr (1, [.ref h_5_0, .ref h_5_1, .ref h_5_2, .ref h_5_3, .ref h_5_4, .ref h_5_5, .ref h_5_6, .ref h_5_7, .ref h_5_8, .ref h_5_9, .ref h_5_10, .ref h_5_11, .ref h_5_12, .int 0]))] sz) := by
  refine Met.ofW (cc := cX11_odds) (maxL := 5) (ret := (some .long)) (by decide) rfl ?_
  intro p e s m args below meth c s₁ B hml hv
  obtain ⟨rfl, hsz, hP, hKK, hD0⟩ := hv
  have hK := hKK.1
  have hx := B.exec
  have hb := B.bytes
  have hr := B.returns
  have hg : ∀ w ∈ gl, w.before _ s = true := fun w h => atoms_spec (ws := wk yX11_odds cX11_odds 5 (some .long)) B.pre w (List.mem_cons_of_mem _ h)
  have hown : s.vm.findClass RX11 = some m.cls := findClass_of_methodNamed B.named
  have hlocks := B.notSynchronized
  subst hsz
  have hD := hD0.self (sz := s.heap.size)
  generalize hAe : va_A [(h, .inr (11, [.ref h_0, .ref h_1, .ref h_2, .ref h_3, .ref h_4, .ref h_5, .ref h_6, .ref h_7, .ref h_8, .ref h_9, .ref h_10, .ref h_11, .ref h_12, .int h_13, .int h_14])), (h_5, .inr (1, [.ref h_5_0, .ref h_5_1, .ref h_5_2, .ref h_5_3, .ref h_5_4, .ref h_5_5, .ref h_5_6, .ref h_5_7, .ref h_5_8, .ref h_5_9, .ref h_5_10, .ref h_5_11, .ref h_5_12, .int 0]))] s.heap.size = A at hD ⊢
  have hA : ∀ q : Nat, s.heap.size ≤ q → A q := fun q h => by rw [← hAe]; exact Or.inr h
  have hS : va_S A s.heap s.heap [] := va_S.rf
  have hl := lv_entry ([.ref h, .int a1, .int a2, .int a3]) (n := 5) (Nat.le_of_ble_eq_true rfl)
  rw [lg_entry_eq]
  generalize (lg_sl ([.ref h, .int a1, .int a2, .int a3]) ++ List.replicate (5 - (lg_sl ([.ref h, .int a1, .int a2, .int a3])).length) Slot.unset).toArray = ls at hl ⊢
  have hl : lv_has ls 5 [(0, .ref h), (1, .int a1), (2, .int a2), (3, .int a3)] := hl
  refine lv_aload_n hx hb dX11_odds_0 rfl (lv_at hl 0 rfl) ?_
  refine va_get (D := D) (ci := 11) (v := .ref h_5) (C := RX11) (T := TX11) (N := 15) hx hb hg inX11 hown hK hP 0 rfl rfl 5 (by decide) (hg _ wd_688) (fun _ h9 => h9) rfl dX11_odds_1 ?_
  refine lv_iload_n hx hb dX11_odds_4 rfl (lv_at hl 1 rfl) ?_
  have hPc := hP.sub (ws' := [(h_5, .inr (1, [.ref h_5_0, .ref h_5_1, .ref h_5_2, .ref h_5_3, .ref h_5_4, .ref h_5_5, .ref h_5_6, .ref h_5_7, .ref h_5_8, .ref h_5_9, .ref h_5_10, .ref h_5_11, .ref h_5_12, .int 0]))]) [1] rfl
  refine z_calli (va_runV (As := [.int a1]) (rest := []) ⟨hx, hb, hml, hown, hg⟩ (c_holds0 l D ct h_5 a1 h_5_0 h_5_1 h_5_2 h_5_3 h_5_4 h_5_5 h_5_6 h_5_7 h_5_8 h_5_9 h_5_10 h_5_11 h_5_12 ) (cwV 1 hg (gd_V wd_992 wd_993 wd_994 wd_111 wd_995) rfl rfl rfl (by decide +kernel) ⟨Nat.le_of_ble_eq_true rfl, Nat.le_of_ble_eq_true rfl⟩) (Wr_V hPc hKK (va_recv hK hPc (ci := 1) (q0 := 0) rfl rfl)) rfl rfl hl.1 rfl (lv_room (Nat.le_of_ble_eq_true rfl)) dX11_odds_5 ⟨Nat.le_of_ble_eq_true rfl, Nat.le_of_ble_eq_true rfl⟩) (fun r_1 hw_1 => ?_)
  subst hw_1
  refine lv_if_eq (tgt := 36) hx hb dX11_odds_8 (by decide) (fun _ => ?_) (fun h => absurd (by decide) h)
  refine lv_ldc2 hx hb hown (hg _ wd_1011) dX11_odds_36 ?_
  exact W.lret (v := (-1)) hx hb hr (fun t ht hW => ⟨⟨(-1), (), rfl, (by simp [sp_odds]), trivial⟩, hS.F ht⟩) hS.2.2 dX11_odds_39
def sp_person (a1 : Int32) (a2 : Int32) : Int32 := -1
theorem dX11_person_0 : decode cX11_person 0 = .ok (.aload_n 0, 1) := by decide +kernel
theorem dX11_person_1 : decode cX11_person 1 = .ok (.getfield 39, 3) := by decide +kernel
theorem dX11_person_4 : decode cX11_person 4 = .ok (.iload_n 1, 1) := by decide +kernel
theorem dX11_person_5 : decode cX11_person 5 = .ok (.invokevirtual 190, 3) := by decide +kernel
theorem dX11_person_8 : decode cX11_person 8 = .ok (.ifCond .eq 10, 3) := by decide +kernel
theorem dX11_person_18 : decode cX11_person 18 = .ok (.iconst (-1), 1) := by decide +kernel
theorem dX11_person_19 : decode cX11_person 19 = .ok (.ireturn, 1) := by decide +kernel
set_option maxHeartbeats 4000000 in
set_option maxRecDepth 100000 in
theorem c_person (l : Launch) (D : va_G) (ct : Nat → ClassId) (h : Nat) (a1 : Int32) (a2 : Int32) (h_0 : Nat) (h_1 : Nat) (h_2 : Nat) (h_3 : Nat) (h_4 : Nat) (h_5 : Nat) (h_6 : Nat) (h_7 : Nat) (h_8 : Nat) (h_9 : Nat) (h_10 : Nat) (h_11 : Nat) (h_12 : Nat) (h_13 : Int32) (h_14 : Int32) (h_5_0 : Nat) (h_5_1 : Nat) (h_5_2 : Nat) (h_5_3 : Nat) (h_5_4 : Nat) (h_5_5 : Nat) (h_5_6 : Nat) (h_5_7 : Nat) (h_5_8 : Nat) (h_5_9 : Nat) (h_5_10 : Nat) (h_5_11 : Nat) (h_5_12 : Nat) (sz : Nat)  : Met l yX11_person (wk yX11_person cX11_person 3 (some .int)) { frames := 1, cells := 0, slots := 0, locals := 21 } (va_Pc [.ref h, .int a1, .int a2] (Wd D [(h, .inr (11, [.ref h_0, .ref h_1, .ref h_2, .ref h_3, .ref h_4, .ref h_5, .ref h_6, .ref h_7, .ref h_8, .ref h_9, .ref h_10, .ref h_11, .ref h_12, .int h_13, .int h_14])), (h_5, .inr (1, [.ref h_5_0, .ref h_5_1, .ref h_5_2, .ref h_5_3, .ref h_5_4, .ref h_5_5, .ref h_5_6, .ref h_5_7, .ref h_5_8, .ref h_5_9, .ref h_5_10, .ref h_5_11, .ref h_5_12, .int 0]))] ct sz)) (va_Qi (fun (r : Int32) (u : Unit) => r = sp_person a1 a2) (fun _ _ => True) (va_A [(h, .inr (11, [.ref h_0, .ref h_1, .ref h_2, .ref h_3, .ref h_4, .ref h_5, .ref h_6, .ref h_7, .ref h_8, .ref h_9, .ref h_10, .ref h_11, .ref h_12, .int h_13, .int h_14])), (h_5, .inr (1, [.ref h_5_0, .ref h_5_1, .ref h_5_2, .ref h_5_3, .ref h_5_4, .ref h_5_5, .ref h_5_6, .ref h_5_7, .ref h_5_8, .ref h_5_9, .ref h_5_10, .ref h_5_11, .ref h_5_12, .int 0]))] sz)) 0 0 (va_A [(h, .inr (11, [.ref h_0, .ref h_1, .ref h_2, .ref h_3, .ref h_4, .ref h_5, .ref h_6, .ref h_7, .ref h_8, .ref h_9, .ref h_10, .ref h_11, .ref h_12, .int h_13, .int h_14])), (h_5, .inr (1, [.ref h_5_0, .ref h_5_1, .ref h_5_2, .ref h_5_3, .ref h_5_4, .ref h_5_5, .ref h_5_6, .ref h_5_7, .ref h_5_8, .ref h_5_9, .ref h_5_10, .ref h_5_11, .ref h_5_12, .int 0]))] sz) := by
  refine Met.ofW (cc := cX11_person) (maxL := 3) (ret := (some .int)) (by decide) rfl ?_
  intro p e s m args below meth c s₁ B hml hv
  obtain ⟨rfl, hsz, hP, hKK, hD0⟩ := hv
  have hK := hKK.1
  have hx := B.exec
  have hb := B.bytes
  have hr := B.returns
  have hg : ∀ w ∈ gl, w.before _ s = true := fun w h => atoms_spec (ws := wk yX11_person cX11_person 3 (some .int)) B.pre w (List.mem_cons_of_mem _ h)
  have hown : s.vm.findClass RX11 = some m.cls := findClass_of_methodNamed B.named
  have hlocks := B.notSynchronized
  subst hsz
  have hD := hD0.self (sz := s.heap.size)
  generalize hAe : va_A [(h, .inr (11, [.ref h_0, .ref h_1, .ref h_2, .ref h_3, .ref h_4, .ref h_5, .ref h_6, .ref h_7, .ref h_8, .ref h_9, .ref h_10, .ref h_11, .ref h_12, .int h_13, .int h_14])), (h_5, .inr (1, [.ref h_5_0, .ref h_5_1, .ref h_5_2, .ref h_5_3, .ref h_5_4, .ref h_5_5, .ref h_5_6, .ref h_5_7, .ref h_5_8, .ref h_5_9, .ref h_5_10, .ref h_5_11, .ref h_5_12, .int 0]))] s.heap.size = A at hD ⊢
  have hA : ∀ q : Nat, s.heap.size ≤ q → A q := fun q h => by rw [← hAe]; exact Or.inr h
  have hS : va_S A s.heap s.heap [] := va_S.rf
  have hl := lv_entry ([.ref h, .int a1, .int a2]) (n := 3) (Nat.le_of_ble_eq_true rfl)
  rw [lg_entry_eq]
  generalize (lg_sl ([.ref h, .int a1, .int a2]) ++ List.replicate (3 - (lg_sl ([.ref h, .int a1, .int a2])).length) Slot.unset).toArray = ls at hl ⊢
  have hl : lv_has ls 3 [(0, .ref h), (1, .int a1), (2, .int a2)] := hl
  refine lv_aload_n hx hb dX11_person_0 rfl (lv_at hl 0 rfl) ?_
  refine va_get (D := D) (ci := 11) (v := .ref h_5) (C := RX11) (T := TX11) (N := 15) hx hb hg inX11 hown hK hP 0 rfl rfl 5 (by decide) (hg _ wd_688) (fun _ h9 => h9) rfl dX11_person_1 ?_
  refine lv_iload_n hx hb dX11_person_4 rfl (lv_at hl 1 rfl) ?_
  have hPc := hP.sub (ws' := [(h_5, .inr (1, [.ref h_5_0, .ref h_5_1, .ref h_5_2, .ref h_5_3, .ref h_5_4, .ref h_5_5, .ref h_5_6, .ref h_5_7, .ref h_5_8, .ref h_5_9, .ref h_5_10, .ref h_5_11, .ref h_5_12, .int 0]))]) [1] rfl
  refine z_calli (va_runV (As := [.int a1]) (rest := []) ⟨hx, hb, hml, hown, hg⟩ (c_holds0 l D ct h_5 a1 h_5_0 h_5_1 h_5_2 h_5_3 h_5_4 h_5_5 h_5_6 h_5_7 h_5_8 h_5_9 h_5_10 h_5_11 h_5_12 ) (cwV 1 hg (gd_V wd_992 wd_993 wd_994 wd_111 wd_995) rfl rfl rfl (by decide +kernel) ⟨Nat.le_of_ble_eq_true rfl, Nat.le_of_ble_eq_true rfl⟩) (Wr_V hPc hKK (va_recv hK hPc (ci := 1) (q0 := 0) rfl rfl)) rfl rfl hl.1 rfl (lv_room (Nat.le_of_ble_eq_true rfl)) dX11_person_5 ⟨Nat.le_of_ble_eq_true rfl, Nat.le_of_ble_eq_true rfl⟩) (fun r_1 hw_1 => ?_)
  subst hw_1
  refine lv_if_eq (tgt := 18) hx hb dX11_person_8 (by decide) (fun _ => ?_) (fun h => absurd (by decide) h)
  refine lv_iconst (v := (-1)) hx hb dX11_person_18 (by decide) ?_
  exact W.iret (v := (-1)) hx hb hr (fun t ht hW => ⟨⟨(-1), (), rfl, (by simp [sp_person]), trivial⟩, hS.F ht⟩) hS.2.2 dX11_person_19
theorem dX11_lookAt_0 : decode cX11_lookAt 0 = .ok (.iload_n 2, 1) := by decide +kernel
theorem dX11_lookAt_1 : decode cX11_lookAt 1 = .ok (.invokestatic 159, 3) := by decide +kernel
theorem wd_966 : (Cond.code yX11_isDay cX11_isDay 1 (some .boolean)) ∈ gl := gl_at 966 (by decide +kernel) (by decide +kernel)
theorem wd_964 : (Cond.methodLink "VoteRoll" 159 yX11_isDay) ∈ gl := gl_at 964 (by decide +kernel) (by decide +kernel)
theorem wd_965 : (Cond.static yX11_isDay) ∈ gl := gl_at 965 (by decide +kernel) (by decide +kernel)
theorem dX11_lookAt_4 : decode cX11_lookAt 4 = .ok (.ifCond .eq 21, 3) := by decide +kernel
theorem dX11_lookAt_25 : decode cX11_lookAt 25 = .ok (.iconst 0, 1) := by decide +kernel
theorem dX11_lookAt_26 : decode cX11_lookAt 26 = .ok (.ireturn, 1) := by decide +kernel
theorem dX11_lookAt_7 : decode cX11_lookAt 7 = .ok (.iload_n 3, 1) := by decide +kernel
theorem dX11_lookAt_8 : decode cX11_lookAt 8 = .ok (.invokestatic 159, 3) := by decide +kernel
theorem dX11_lookAt_11 : decode cX11_lookAt 11 = .ok (.ifCond .eq 14, 3) := by decide +kernel
theorem dX11_lookAt_14 : decode cX11_lookAt 14 = .ok (.aload_n 0, 1) := by decide +kernel
theorem dX11_lookAt_15 : decode cX11_lookAt 15 = .ok (.getfield 39, 3) := by decide +kernel
theorem dX11_lookAt_18 : decode cX11_lookAt 18 = .ok (.iload_n 1, 1) := by decide +kernel
theorem dX11_lookAt_19 : decode cX11_lookAt 19 = .ok (.invokevirtual 190, 3) := by decide +kernel
theorem dX11_lookAt_22 : decode cX11_lookAt 22 = .ok (.ifCond .ne 5, 3) := by decide +kernel
set_option maxHeartbeats 4000000 in
set_option maxRecDepth 100000 in
theorem c_lookAt0 (l : Launch) (D : va_G) (ct : Nat → ClassId) (h : Nat) (a1 : Int32) (a2 : Int32) (a3 : Int32) (h_0 : Nat) (h_1 : Nat) (h_2 : Nat) (h_3 : Nat) (h_4 : Nat) (h_5 : Nat) (h_6 : Nat) (h_7 : Nat) (h_8 : Nat) (h_9 : Nat) (h_10 : Nat) (h_11 : Nat) (h_12 : Nat) (h_13 : Int32) (h_14 : Int32) (h_5_0 : Nat) (h_5_1 : Nat) (h_5_2 : Nat) (h_5_3 : Nat) (h_5_4 : Nat) (h_5_5 : Nat) (h_5_6 : Nat) (h_5_7 : Nat) (h_5_8 : Nat) (h_5_9 : Nat) (h_5_10 : Nat) (h_5_11 : Nat) (h_5_12 : Nat)  : Met l yX11_lookAt (wk yX11_lookAt cX11_lookAt 5 (some .boolean)) { frames := 2, cells := 0, slots := 0, locals := 42 } (va_Pc [.ref h, .int a1, .int a2, .int a3] (Wr D [(h, .inr (11, [.ref h_0, .ref h_1, .ref h_2, .ref h_3, .ref h_4, .ref h_5, .ref h_6, .ref h_7, .ref h_8, .ref h_9, .ref h_10, .ref h_11, .ref h_12, .int h_13, .int h_14])), (h_5, .inr (1, [.ref h_5_0, .ref h_5_1, .ref h_5_2, .ref h_5_3, .ref h_5_4, .ref h_5_5, .ref h_5_6, .ref h_5_7, .ref h_5_8, .ref h_5_9, .ref h_5_10, .ref h_5_11, .ref h_5_12, .int 0]))] ct)) (zI (fun r : Int32 => r = 0)) 0 0 (fun _ => False) := by
  refine Met.ofW (cc := cX11_lookAt) (maxL := 5) (ret := (some .boolean)) (by decide) rfl ?_
  intro p e s m args below meth c s₁ B hml hv
  obtain ⟨rfl, hP, hKK⟩ := hv
  have hK := hKK.1
  have hx := B.exec
  have hb := B.bytes
  have hr := B.returns
  have hg : ∀ w ∈ gl, w.before _ s = true := fun w h => atoms_spec (ws := wk yX11_lookAt cX11_lookAt 5 (some .boolean)) B.pre w (List.mem_cons_of_mem _ h)
  have hown : s.vm.findClass RX11 = some m.cls := findClass_of_methodNamed B.named
  have hlocks := B.notSynchronized
  have hl := lv_entry ([.ref h, .int a1, .int a2, .int a3]) (n := 5) (Nat.le_of_ble_eq_true rfl)
  rw [lg_entry_eq]
  generalize (lg_sl ([.ref h, .int a1, .int a2, .int a3]) ++ List.replicate (5 - (lg_sl ([.ref h, .int a1, .int a2, .int a3])).length) Slot.unset).toArray = ls at hl ⊢
  have hl : lv_has ls 5 [(0, .ref h), (1, .int a1), (2, .int a2), (3, .int a3)] := hl
  refine lv_iload_n hx hb dX11_lookAt_0 rfl (lv_at hl 2 rfl) ?_
  have hPc := hP.sub (ws' := []) [] rfl
  refine z_calli (va_runS (As := [.int a2]) (rest := []) ⟨hx, hb, hml, hown, hg⟩ (c_isDay l D ct a2 ) (va_cwS 1 hg (gd_S wd_964 wd_965 wd_107 wd_966) rfl rfl rfl (by decide +kernel) ⟨Nat.le_of_ble_eq_true rfl, Nat.le_of_ble_eq_true rfl⟩) (Wr_S hPc hKK) rfl rfl hl.1 rfl (lv_room (Nat.le_of_ble_eq_true rfl)) dX11_lookAt_1 ⟨Nat.le_of_ble_eq_true rfl, Nat.le_of_ble_eq_true rfl⟩) (fun r_1 hw_1 => ?_)
  subst hw_1
  refine lv_if_eq (tgt := 25) hx hb dX11_lookAt_4 (by decide) (fun c_2 => ?_) (fun c_2 => ?_)
  · refine lv_iconst (v := 0) hx hb dX11_lookAt_25 (by decide) ?_
    exact W.zret (v := 0) hx hb hr rfl (fun t ht hW => ⟨0, rfl, rfl, ht⟩) (fun q h => by cases h) dX11_lookAt_26
  · refine lv_iload_n hx hb dX11_lookAt_7 rfl (lv_at hl 3 rfl) ?_
    have hPc := hP.sub (ws' := []) [] rfl
    refine z_calli (va_runS (As := [.int a3]) (rest := []) ⟨hx, hb, hml, hown, hg⟩ (c_isDay l D ct a3 ) (va_cwS 1 hg (gd_S wd_964 wd_965 wd_107 wd_966) rfl rfl rfl (by decide +kernel) ⟨Nat.le_of_ble_eq_true rfl, Nat.le_of_ble_eq_true rfl⟩) (Wr_S hPc hKK) rfl rfl hl.1 rfl (lv_room (Nat.le_of_ble_eq_true rfl)) dX11_lookAt_8 ⟨Nat.le_of_ble_eq_true rfl, Nat.le_of_ble_eq_true rfl⟩) (fun r_3 hw_3 => ?_)
    subst hw_3
    refine lv_if_eq (tgt := 25) hx hb dX11_lookAt_11 (by decide) (fun c_4 => ?_) (fun c_4 => ?_)
    · refine lv_iconst (v := 0) hx hb dX11_lookAt_25 (by decide) ?_
      exact W.zret (v := 0) hx hb hr rfl (fun t ht hW => ⟨0, rfl, rfl, ht⟩) (fun q h => by cases h) dX11_lookAt_26
    · refine lv_aload_n hx hb dX11_lookAt_14 rfl (lv_at hl 0 rfl) ?_
      refine va_get (D := D) (ci := 11) (v := .ref h_5) (C := RX11) (T := TX11) (N := 15) hx hb hg inX11 hown hK hP 0 rfl rfl 5 (by decide) (hg _ wd_688) (fun _ h9 => h9) rfl dX11_lookAt_15 ?_
      refine lv_iload_n hx hb dX11_lookAt_18 rfl (lv_at hl 1 rfl) ?_
      have hPc := hP.sub (ws' := [(h_5, .inr (1, [.ref h_5_0, .ref h_5_1, .ref h_5_2, .ref h_5_3, .ref h_5_4, .ref h_5_5, .ref h_5_6, .ref h_5_7, .ref h_5_8, .ref h_5_9, .ref h_5_10, .ref h_5_11, .ref h_5_12, .int 0]))]) [1] rfl
      refine z_calli (va_runV (As := [.int a1]) (rest := []) ⟨hx, hb, hml, hown, hg⟩ (c_holds0 l D ct h_5 a1 h_5_0 h_5_1 h_5_2 h_5_3 h_5_4 h_5_5 h_5_6 h_5_7 h_5_8 h_5_9 h_5_10 h_5_11 h_5_12 ) (cwV 1 hg (gd_V wd_992 wd_993 wd_994 wd_111 wd_995) rfl rfl rfl (by decide +kernel) ⟨Nat.le_of_ble_eq_true rfl, Nat.le_of_ble_eq_true rfl⟩) (Wr_V hPc hKK (va_recv hK hPc (ci := 1) (q0 := 0) rfl rfl)) rfl rfl hl.1 rfl (lv_room (Nat.le_of_ble_eq_true rfl)) dX11_lookAt_19 ⟨Nat.le_of_ble_eq_true rfl, Nat.le_of_ble_eq_true rfl⟩) (fun r_5 hw_5 => ?_)
      subst hw_5
      refine lv_if_ne (tgt := 27) hx hb dX11_lookAt_22 (by decide) (fun h => absurd (by decide) h) (fun _ => ?_)
      refine lv_iconst (v := 0) hx hb dX11_lookAt_25 (by decide) ?_
      exact W.zret (v := 0) hx hb hr rfl (fun t ht hW => ⟨0, rfl, rfl, ht⟩) (fun q h => by cases h) dX11_lookAt_26
def sp_of (a1 : Int32) (a2 : Int32) (a3 : Int32) (a4 : Int32) : Int32 := -1
theorem dX11_of_0 : decode cX11_of 0 = .ok (.iload 4, 2) := by decide +kernel
theorem dX11_of_2 : decode cX11_of 2 = .ok (.iconst 0, 1) := by decide +kernel
theorem dX11_of_3 : decode cX11_of 3 = .ok (.bipush 6, 2) := by decide +kernel
theorem dX11_of_5 : decode cX11_of 5 = .ok (.invokestatic 150, 3) := by decide +kernel
theorem dX11_of_8 : decode cX11_of 8 = .ok (.ifCond .eq 13, 3) := by decide +kernel
theorem dX11_of_21 : decode cX11_of 21 = .ok (.iconst (-1), 1) := by decide +kernel
theorem dX11_of_22 : decode cX11_of 22 = .ok (.ireturn, 1) := by decide +kernel
theorem dX11_of_11 : decode cX11_of 11 = .ok (.aload_n 0, 1) := by decide +kernel
theorem dX11_of_12 : decode cX11_of 12 = .ok (.iload_n 1, 1) := by decide +kernel
theorem dX11_of_13 : decode cX11_of 13 = .ok (.iload_n 2, 1) := by decide +kernel
theorem dX11_of_14 : decode cX11_of 14 = .ok (.iload_n 3, 1) := by decide +kernel
theorem dX11_of_15 : decode cX11_of 15 = .ok (.invokevirtual 267, 3) := by decide +kernel
theorem wd_1106 : (Cond.code yX11_lookAt cX11_lookAt 5 (some .boolean)) ∈ gl := gl_at 1106 (by decide +kernel) (by decide +kernel)
theorem wd_1103 : (Cond.methodLink "VoteRoll" 267 yX11_lookAt) ∈ gl := gl_at 1103 (by decide +kernel) (by decide +kernel)
theorem wd_1105 : (Cond.instanceMethod yX11_lookAt) ∈ gl := gl_at 1105 (by decide +kernel) (by decide +kernel)
theorem wd_22 : (Cond.selects "VoteRoll" yX11_lookAt yX11_lookAt) ∈ gl := gl_at 22 (by decide +kernel) (by decide +kernel)
theorem dX11_of_18 : decode cX11_of 18 = .ok (.ifCond .ne 5, 3) := by decide +kernel
set_option maxHeartbeats 4000000 in
set_option maxRecDepth 100000 in
theorem c_of (l : Launch) (D : va_G) (ct : Nat → ClassId) (h : Nat) (a1 : Int32) (a2 : Int32) (a3 : Int32) (a4 : Int32) (h_0 : Nat) (h_1 : Nat) (h_2 : Nat) (h_3 : Nat) (h_4 : Nat) (h_5 : Nat) (h_6 : Nat) (h_7 : Nat) (h_8 : Nat) (h_9 : Nat) (h_10 : Nat) (h_11 : Nat) (h_12 : Nat) (h_13 : Int32) (h_14 : Int32) (h_5_0 : Nat) (h_5_1 : Nat) (h_5_2 : Nat) (h_5_3 : Nat) (h_5_4 : Nat) (h_5_5 : Nat) (h_5_6 : Nat) (h_5_7 : Nat) (h_5_8 : Nat) (h_5_9 : Nat) (h_5_10 : Nat) (h_5_11 : Nat) (h_5_12 : Nat) (sz : Nat)  : Met l yX11_of (wk yX11_of cX11_of 5 (some .int)) { frames := 3, cells := 0, slots := 0, locals := 66 } (va_Pc [.ref h, .int a1, .int a2, .int a3, .int a4] (Wd D [(h, .inr (11, [.ref h_0, .ref h_1, .ref h_2, .ref h_3, .ref h_4, .ref h_5, .ref h_6, .ref h_7, .ref h_8, .ref h_9, .ref h_10, .ref h_11, .ref h_12, .int h_13, .int h_14])), (h_5, .inr (1, [.ref h_5_0, .ref h_5_1, .ref h_5_2, .ref h_5_3, .ref h_5_4, .ref h_5_5, .ref h_5_6, .ref h_5_7, .ref h_5_8, .ref h_5_9, .ref h_5_10, .ref h_5_11, .ref h_5_12, .int 0]))] ct sz)) (va_Qi (fun (r : Int32) (u : Unit) => r = sp_of a1 a2 a3 a4) (fun _ _ => True) (va_A [(h, .inr (11, [.ref h_0, .ref h_1, .ref h_2, .ref h_3, .ref h_4, .ref h_5, .ref h_6, .ref h_7, .ref h_8, .ref h_9, .ref h_10, .ref h_11, .ref h_12, .int h_13, .int h_14])), (h_5, .inr (1, [.ref h_5_0, .ref h_5_1, .ref h_5_2, .ref h_5_3, .ref h_5_4, .ref h_5_5, .ref h_5_6, .ref h_5_7, .ref h_5_8, .ref h_5_9, .ref h_5_10, .ref h_5_11, .ref h_5_12, .int 0]))] sz)) 0 0 (va_A [(h, .inr (11, [.ref h_0, .ref h_1, .ref h_2, .ref h_3, .ref h_4, .ref h_5, .ref h_6, .ref h_7, .ref h_8, .ref h_9, .ref h_10, .ref h_11, .ref h_12, .int h_13, .int h_14])), (h_5, .inr (1, [.ref h_5_0, .ref h_5_1, .ref h_5_2, .ref h_5_3, .ref h_5_4, .ref h_5_5, .ref h_5_6, .ref h_5_7, .ref h_5_8, .ref h_5_9, .ref h_5_10, .ref h_5_11, .ref h_5_12, .int 0]))] sz) := by
  refine Met.ofW (cc := cX11_of) (maxL := 5) (ret := (some .int)) (by decide) rfl ?_
  intro p e s m args below meth c s₁ B hml hv
  obtain ⟨rfl, hsz, hP, hKK, hD0⟩ := hv
  have hK := hKK.1
  have hx := B.exec
  have hb := B.bytes
  have hr := B.returns
  have hg : ∀ w ∈ gl, w.before _ s = true := fun w h => atoms_spec (ws := wk yX11_of cX11_of 5 (some .int)) B.pre w (List.mem_cons_of_mem _ h)
  have hown : s.vm.findClass RX11 = some m.cls := findClass_of_methodNamed B.named
  have hlocks := B.notSynchronized
  subst hsz
  have hD := hD0.self (sz := s.heap.size)
  generalize hAe : va_A [(h, .inr (11, [.ref h_0, .ref h_1, .ref h_2, .ref h_3, .ref h_4, .ref h_5, .ref h_6, .ref h_7, .ref h_8, .ref h_9, .ref h_10, .ref h_11, .ref h_12, .int h_13, .int h_14])), (h_5, .inr (1, [.ref h_5_0, .ref h_5_1, .ref h_5_2, .ref h_5_3, .ref h_5_4, .ref h_5_5, .ref h_5_6, .ref h_5_7, .ref h_5_8, .ref h_5_9, .ref h_5_10, .ref h_5_11, .ref h_5_12, .int 0]))] s.heap.size = A at hD ⊢
  have hA : ∀ q : Nat, s.heap.size ≤ q → A q := fun q h => by rw [← hAe]; exact Or.inr h
  have hS : va_S A s.heap s.heap [] := va_S.rf
  have hl := lv_entry ([.ref h, .int a1, .int a2, .int a3, .int a4]) (n := 5) (Nat.le_of_ble_eq_true rfl)
  rw [lg_entry_eq]
  generalize (lg_sl ([.ref h, .int a1, .int a2, .int a3, .int a4]) ++ List.replicate (5 - (lg_sl ([.ref h, .int a1, .int a2, .int a3, .int a4])).length) Slot.unset).toArray = ls at hl ⊢
  have hl : lv_has ls 5 [(0, .ref h), (1, .int a1), (2, .int a2), (3, .int a3), (4, .int a4)] := hl
  refine lv_iload hx hb dX11_of_0 (lv_at hl 4 rfl) ?_
  refine lv_iconst (v := 0) hx hb dX11_of_2 (by decide) ?_
  refine lv_bipush (v := 6) hx hb dX11_of_3 (by decide) ?_
  have hPc := hP.sub (ws' := []) [] rfl
  refine z_calli (va_runS (As := [.int a4, .int 0, .int 6]) (rest := []) ⟨hx, hb, hml, hown, hg⟩ (c_within l D ct a4 0 6 ) (va_cwS 3 hg (gd_S wd_959 wd_917 wd_107 wd_918) rfl rfl rfl (by decide +kernel) ⟨Nat.le_of_ble_eq_true rfl, Nat.le_of_ble_eq_true rfl⟩) (Wr_S hPc hKK) rfl rfl hl.1 rfl (lv_room (Nat.le_of_ble_eq_true rfl)) dX11_of_5 ⟨Nat.le_of_ble_eq_true rfl, Nat.le_of_ble_eq_true rfl⟩) (fun r_1 hw_1 => ?_)
  subst hw_1
  refine lv_if_eq (tgt := 21) hx hb dX11_of_8 (by decide) (fun c_2 => ?_) (fun c_2 => ?_)
  · refine lv_iconst (v := (-1)) hx hb dX11_of_21 (by decide) ?_
    exact W.iret (v := (-1)) hx hb hr (fun t ht hW => ⟨⟨(-1), (), rfl, (by simp [sp_of, c_2]), trivial⟩, hS.F ht⟩) hS.2.2 dX11_of_22
  · refine lv_aload_n hx hb dX11_of_11 rfl (lv_at hl 0 rfl) ?_
    refine lv_iload_n hx hb dX11_of_12 rfl (lv_at hl 1 rfl) ?_
    refine lv_iload_n hx hb dX11_of_13 rfl (lv_at hl 2 rfl) ?_
    refine lv_iload_n hx hb dX11_of_14 rfl (lv_at hl 3 rfl) ?_
    have hPc := hP.sub (ws' := [(h, .inr (11, [.ref h_0, .ref h_1, .ref h_2, .ref h_3, .ref h_4, .ref h_5, .ref h_6, .ref h_7, .ref h_8, .ref h_9, .ref h_10, .ref h_11, .ref h_12, .int h_13, .int h_14])), (h_5, .inr (1, [.ref h_5_0, .ref h_5_1, .ref h_5_2, .ref h_5_3, .ref h_5_4, .ref h_5_5, .ref h_5_6, .ref h_5_7, .ref h_5_8, .ref h_5_9, .ref h_5_10, .ref h_5_11, .ref h_5_12, .int 0]))]) [0, 1] rfl
    refine z_calli (va_runV (As := [.int a1, .int a2, .int a3]) (rest := []) ⟨hx, hb, hml, hown, hg⟩ (c_lookAt0 l D ct h a1 a2 a3 h_0 h_1 h_2 h_3 h_4 h_5 h_6 h_7 h_8 h_9 h_10 h_11 h_12 h_13 h_14 h_5_0 h_5_1 h_5_2 h_5_3 h_5_4 h_5_5 h_5_6 h_5_7 h_5_8 h_5_9 h_5_10 h_5_11 h_5_12 ) (cwV 3 hg (gd_V wd_1103 wd_1105 wd_22 wd_107 wd_1106) rfl rfl rfl (by decide +kernel) ⟨Nat.le_of_ble_eq_true rfl, Nat.le_of_ble_eq_true rfl⟩) (Wr_V hPc hKK (va_recv hK hPc (ci := 11) (q0 := 0) rfl rfl)) rfl rfl hl.1 rfl (lv_room (Nat.le_of_ble_eq_true rfl)) dX11_of_15 ⟨Nat.le_of_ble_eq_true rfl, Nat.le_of_ble_eq_true rfl⟩) (fun r_3 hw_3 => ?_)
    subst hw_3
    refine lv_if_ne (tgt := 23) hx hb dX11_of_18 (by decide) (fun h => absurd (by decide) h) (fun _ => ?_)
    refine lv_iconst (v := (-1)) hx hb dX11_of_21 (by decide) ?_
    exact W.iret (v := (-1)) hx hb hr (fun t ht hW => ⟨⟨(-1), (), rfl, (by simp [sp_of, c_2]), trivial⟩, hS.F ht⟩) hS.2.2 dX11_of_22
def sp_led (a1 : Int32) (a2 : Int32) (a3 : Int32) (a4 : Int32) : Int32 := -1
theorem dX11_led_0 : decode cX11_led 0 = .ok (.iload 4, 2) := by decide +kernel
theorem dX11_led_2 : decode cX11_led 2 = .ok (.iconst 1, 1) := by decide +kernel
theorem dX11_led_3 : decode cX11_led 3 = .ok (.iconst 5, 1) := by decide +kernel
theorem dX11_led_4 : decode cX11_led 4 = .ok (.invokestatic 150, 3) := by decide +kernel
theorem dX11_led_7 : decode cX11_led 7 = .ok (.ifCond .eq 13, 3) := by decide +kernel
theorem dX11_led_20 : decode cX11_led 20 = .ok (.iconst (-1), 1) := by decide +kernel
theorem dX11_led_21 : decode cX11_led 21 = .ok (.ireturn, 1) := by decide +kernel
theorem dX11_led_10 : decode cX11_led 10 = .ok (.aload_n 0, 1) := by decide +kernel
theorem dX11_led_11 : decode cX11_led 11 = .ok (.iload_n 1, 1) := by decide +kernel
theorem dX11_led_12 : decode cX11_led 12 = .ok (.iload_n 2, 1) := by decide +kernel
theorem dX11_led_13 : decode cX11_led 13 = .ok (.iload_n 3, 1) := by decide +kernel
theorem dX11_led_14 : decode cX11_led 14 = .ok (.invokevirtual 267, 3) := by decide +kernel
theorem dX11_led_17 : decode cX11_led 17 = .ok (.ifCond .ne 5, 3) := by decide +kernel
set_option maxHeartbeats 4000000 in
set_option maxRecDepth 100000 in
theorem c_led (l : Launch) (D : va_G) (ct : Nat → ClassId) (h : Nat) (a1 : Int32) (a2 : Int32) (a3 : Int32) (a4 : Int32) (h_0 : Nat) (h_1 : Nat) (h_2 : Nat) (h_3 : Nat) (h_4 : Nat) (h_5 : Nat) (h_6 : Nat) (h_7 : Nat) (h_8 : Nat) (h_9 : Nat) (h_10 : Nat) (h_11 : Nat) (h_12 : Nat) (h_13 : Int32) (h_14 : Int32) (h_5_0 : Nat) (h_5_1 : Nat) (h_5_2 : Nat) (h_5_3 : Nat) (h_5_4 : Nat) (h_5_5 : Nat) (h_5_6 : Nat) (h_5_7 : Nat) (h_5_8 : Nat) (h_5_9 : Nat) (h_5_10 : Nat) (h_5_11 : Nat) (h_5_12 : Nat) (sz : Nat)  : Met l yX11_led (wk yX11_led cX11_led 5 (some .int)) { frames := 3, cells := 0, slots := 0, locals := 66 } (va_Pc [.ref h, .int a1, .int a2, .int a3, .int a4] (Wd D [(h, .inr (11, [.ref h_0, .ref h_1, .ref h_2, .ref h_3, .ref h_4, .ref h_5, .ref h_6, .ref h_7, .ref h_8, .ref h_9, .ref h_10, .ref h_11, .ref h_12, .int h_13, .int h_14])), (h_5, .inr (1, [.ref h_5_0, .ref h_5_1, .ref h_5_2, .ref h_5_3, .ref h_5_4, .ref h_5_5, .ref h_5_6, .ref h_5_7, .ref h_5_8, .ref h_5_9, .ref h_5_10, .ref h_5_11, .ref h_5_12, .int 0]))] ct sz)) (va_Qi (fun (r : Int32) (u : Unit) => r = sp_led a1 a2 a3 a4) (fun _ _ => True) (va_A [(h, .inr (11, [.ref h_0, .ref h_1, .ref h_2, .ref h_3, .ref h_4, .ref h_5, .ref h_6, .ref h_7, .ref h_8, .ref h_9, .ref h_10, .ref h_11, .ref h_12, .int h_13, .int h_14])), (h_5, .inr (1, [.ref h_5_0, .ref h_5_1, .ref h_5_2, .ref h_5_3, .ref h_5_4, .ref h_5_5, .ref h_5_6, .ref h_5_7, .ref h_5_8, .ref h_5_9, .ref h_5_10, .ref h_5_11, .ref h_5_12, .int 0]))] sz)) 0 0 (va_A [(h, .inr (11, [.ref h_0, .ref h_1, .ref h_2, .ref h_3, .ref h_4, .ref h_5, .ref h_6, .ref h_7, .ref h_8, .ref h_9, .ref h_10, .ref h_11, .ref h_12, .int h_13, .int h_14])), (h_5, .inr (1, [.ref h_5_0, .ref h_5_1, .ref h_5_2, .ref h_5_3, .ref h_5_4, .ref h_5_5, .ref h_5_6, .ref h_5_7, .ref h_5_8, .ref h_5_9, .ref h_5_10, .ref h_5_11, .ref h_5_12, .int 0]))] sz) := by
  refine Met.ofW (cc := cX11_led) (maxL := 5) (ret := (some .int)) (by decide) rfl ?_
  intro p e s m args below meth c s₁ B hml hv
  obtain ⟨rfl, hsz, hP, hKK, hD0⟩ := hv
  have hK := hKK.1
  have hx := B.exec
  have hb := B.bytes
  have hr := B.returns
  have hg : ∀ w ∈ gl, w.before _ s = true := fun w h => atoms_spec (ws := wk yX11_led cX11_led 5 (some .int)) B.pre w (List.mem_cons_of_mem _ h)
  have hown : s.vm.findClass RX11 = some m.cls := findClass_of_methodNamed B.named
  have hlocks := B.notSynchronized
  subst hsz
  have hD := hD0.self (sz := s.heap.size)
  generalize hAe : va_A [(h, .inr (11, [.ref h_0, .ref h_1, .ref h_2, .ref h_3, .ref h_4, .ref h_5, .ref h_6, .ref h_7, .ref h_8, .ref h_9, .ref h_10, .ref h_11, .ref h_12, .int h_13, .int h_14])), (h_5, .inr (1, [.ref h_5_0, .ref h_5_1, .ref h_5_2, .ref h_5_3, .ref h_5_4, .ref h_5_5, .ref h_5_6, .ref h_5_7, .ref h_5_8, .ref h_5_9, .ref h_5_10, .ref h_5_11, .ref h_5_12, .int 0]))] s.heap.size = A at hD ⊢
  have hA : ∀ q : Nat, s.heap.size ≤ q → A q := fun q h => by rw [← hAe]; exact Or.inr h
  have hS : va_S A s.heap s.heap [] := va_S.rf
  have hl := lv_entry ([.ref h, .int a1, .int a2, .int a3, .int a4]) (n := 5) (Nat.le_of_ble_eq_true rfl)
  rw [lg_entry_eq]
  generalize (lg_sl ([.ref h, .int a1, .int a2, .int a3, .int a4]) ++ List.replicate (5 - (lg_sl ([.ref h, .int a1, .int a2, .int a3, .int a4])).length) Slot.unset).toArray = ls at hl ⊢
  have hl : lv_has ls 5 [(0, .ref h), (1, .int a1), (2, .int a2), (3, .int a3), (4, .int a4)] := hl
  refine lv_iload hx hb dX11_led_0 (lv_at hl 4 rfl) ?_
  refine lv_iconst (v := 1) hx hb dX11_led_2 (by decide) ?_
  refine lv_iconst (v := 5) hx hb dX11_led_3 (by decide) ?_
  have hPc := hP.sub (ws' := []) [] rfl
  refine z_calli (va_runS (As := [.int a4, .int 1, .int 5]) (rest := []) ⟨hx, hb, hml, hown, hg⟩ (c_within l D ct a4 1 5 ) (va_cwS 3 hg (gd_S wd_959 wd_917 wd_107 wd_918) rfl rfl rfl (by decide +kernel) ⟨Nat.le_of_ble_eq_true rfl, Nat.le_of_ble_eq_true rfl⟩) (Wr_S hPc hKK) rfl rfl hl.1 rfl (lv_room (Nat.le_of_ble_eq_true rfl)) dX11_led_4 ⟨Nat.le_of_ble_eq_true rfl, Nat.le_of_ble_eq_true rfl⟩) (fun r_1 hw_1 => ?_)
  subst hw_1
  refine lv_if_eq (tgt := 20) hx hb dX11_led_7 (by decide) (fun c_2 => ?_) (fun c_2 => ?_)
  · refine lv_iconst (v := (-1)) hx hb dX11_led_20 (by decide) ?_
    exact W.iret (v := (-1)) hx hb hr (fun t ht hW => ⟨⟨(-1), (), rfl, (by simp [sp_led, c_2]), trivial⟩, hS.F ht⟩) hS.2.2 dX11_led_21
  · refine lv_aload_n hx hb dX11_led_10 rfl (lv_at hl 0 rfl) ?_
    refine lv_iload_n hx hb dX11_led_11 rfl (lv_at hl 1 rfl) ?_
    refine lv_iload_n hx hb dX11_led_12 rfl (lv_at hl 2 rfl) ?_
    refine lv_iload_n hx hb dX11_led_13 rfl (lv_at hl 3 rfl) ?_
    have hPc := hP.sub (ws' := [(h, .inr (11, [.ref h_0, .ref h_1, .ref h_2, .ref h_3, .ref h_4, .ref h_5, .ref h_6, .ref h_7, .ref h_8, .ref h_9, .ref h_10, .ref h_11, .ref h_12, .int h_13, .int h_14])), (h_5, .inr (1, [.ref h_5_0, .ref h_5_1, .ref h_5_2, .ref h_5_3, .ref h_5_4, .ref h_5_5, .ref h_5_6, .ref h_5_7, .ref h_5_8, .ref h_5_9, .ref h_5_10, .ref h_5_11, .ref h_5_12, .int 0]))]) [0, 1] rfl
    refine z_calli (va_runV (As := [.int a1, .int a2, .int a3]) (rest := []) ⟨hx, hb, hml, hown, hg⟩ (c_lookAt0 l D ct h a1 a2 a3 h_0 h_1 h_2 h_3 h_4 h_5 h_6 h_7 h_8 h_9 h_10 h_11 h_12 h_13 h_14 h_5_0 h_5_1 h_5_2 h_5_3 h_5_4 h_5_5 h_5_6 h_5_7 h_5_8 h_5_9 h_5_10 h_5_11 h_5_12 ) (cwV 3 hg (gd_V wd_1103 wd_1105 wd_22 wd_107 wd_1106) rfl rfl rfl (by decide +kernel) ⟨Nat.le_of_ble_eq_true rfl, Nat.le_of_ble_eq_true rfl⟩) (Wr_V hPc hKK (va_recv hK hPc (ci := 11) (q0 := 0) rfl rfl)) rfl rfl hl.1 rfl (lv_room (Nat.le_of_ble_eq_true rfl)) dX11_led_14 ⟨Nat.le_of_ble_eq_true rfl, Nat.le_of_ble_eq_true rfl⟩) (fun r_3 hw_3 => ?_)
    subst hw_3
    refine lv_if_ne (tgt := 22) hx hb dX11_led_17 (by decide) (fun h => absurd (by decide) h) (fun _ => ?_)
    refine lv_iconst (v := (-1)) hx hb dX11_led_20 (by decide) ?_
    exact W.iret (v := (-1)) hx hb hr (fun t ht hW => ⟨⟨(-1), (), rfl, (by simp [sp_led, c_2]), trivial⟩, hS.F ht⟩) hS.2.2 dX11_led_21
def sp_hide (a1 : Int32) : Int32 := -2
theorem dX11_hide_0 : decode cX11_hide 0 = .ok (.aload_n 0, 1) := by decide +kernel
theorem dX11_hide_1 : decode cX11_hide 1 = .ok (.getfield 39, 3) := by decide +kernel
theorem dX11_hide_4 : decode cX11_hide 4 = .ok (.iload_n 1, 1) := by decide +kernel
theorem dX11_hide_5 : decode cX11_hide 5 = .ok (.invokevirtual 190, 3) := by decide +kernel
theorem dX11_hide_8 : decode cX11_hide 8 = .ok (.ifCond .ne 10, 3) := by decide +kernel
theorem dX11_hide_11 : decode cX11_hide 11 = .ok (.aload_n 0, 1) := by decide +kernel
theorem dX11_hide_12 : decode cX11_hide 12 = .ok (.bipush (-2), 2) := by decide +kernel
theorem dX11_hide_14 : decode cX11_hide 14 = .ok (.invokevirtual 118, 3) := by decide +kernel
theorem dX11_hide_17 : decode cX11_hide 17 = .ok (.ireturn, 1) := by decide +kernel
set_option maxHeartbeats 4000000 in
set_option maxRecDepth 100000 in
theorem c_hide (l : Launch) (D : va_G) (ct : Nat → ClassId) (h : Nat) (a1 : Int32) (h_0 : Nat) (h_1 : Nat) (h_2 : Nat) (h_3 : Nat) (h_4 : Nat) (h_5 : Nat) (h_6 : Nat) (h_7 : Nat) (h_8 : Nat) (h_9 : Nat) (h_10 : Nat) (h_11 : Nat) (h_12 : Nat) (h_13 : Int32) (h_14 : Int32) (h_5_0 : Nat) (h_5_1 : Nat) (h_5_2 : Nat) (h_5_3 : Nat) (h_5_4 : Nat) (h_5_5 : Nat) (h_5_6 : Nat) (h_5_7 : Nat) (h_5_8 : Nat) (h_5_9 : Nat) (h_5_10 : Nat) (h_5_11 : Nat) (h_5_12 : Nat) (sz : Nat)  : Met l yX11_hide (wk yX11_hide cX11_hide 2 (some .int)) { frames := 1, cells := 0, slots := 0, locals := 21 } (va_Pc [.ref h, .int a1] (Wd D [(h, .inr (11, [.ref h_0, .ref h_1, .ref h_2, .ref h_3, .ref h_4, .ref h_5, .ref h_6, .ref h_7, .ref h_8, .ref h_9, .ref h_10, .ref h_11, .ref h_12, .int h_13, .int h_14])), (h_5, .inr (1, [.ref h_5_0, .ref h_5_1, .ref h_5_2, .ref h_5_3, .ref h_5_4, .ref h_5_5, .ref h_5_6, .ref h_5_7, .ref h_5_8, .ref h_5_9, .ref h_5_10, .ref h_5_11, .ref h_5_12, .int 0]))] ct sz)) (va_Qi (fun (r : Int32) (u : Unit) => r = sp_hide a1) (fun _ _ => True) (va_A [(h, .inr (11, [.ref h_0, .ref h_1, .ref h_2, .ref h_3, .ref h_4, .ref h_5, .ref h_6, .ref h_7, .ref h_8, .ref h_9, .ref h_10, .ref h_11, .ref h_12, .int h_13, .int h_14])), (h_5, .inr (1, [.ref h_5_0, .ref h_5_1, .ref h_5_2, .ref h_5_3, .ref h_5_4, .ref h_5_5, .ref h_5_6, .ref h_5_7, .ref h_5_8, .ref h_5_9, .ref h_5_10, .ref h_5_11, .ref h_5_12, .int 0]))] sz)) 0 0 (va_A [(h, .inr (11, [.ref h_0, .ref h_1, .ref h_2, .ref h_3, .ref h_4, .ref h_5, .ref h_6, .ref h_7, .ref h_8, .ref h_9, .ref h_10, .ref h_11, .ref h_12, .int h_13, .int h_14])), (h_5, .inr (1, [.ref h_5_0, .ref h_5_1, .ref h_5_2, .ref h_5_3, .ref h_5_4, .ref h_5_5, .ref h_5_6, .ref h_5_7, .ref h_5_8, .ref h_5_9, .ref h_5_10, .ref h_5_11, .ref h_5_12, .int 0]))] sz) := by
  refine Met.ofW (cc := cX11_hide) (maxL := 2) (ret := (some .int)) (by decide) rfl ?_
  intro p e s m args below meth c s₁ B hml hv
  obtain ⟨rfl, hsz, hP, hKK, hD0⟩ := hv
  have hK := hKK.1
  have hx := B.exec
  have hb := B.bytes
  have hr := B.returns
  have hg : ∀ w ∈ gl, w.before _ s = true := fun w h => atoms_spec (ws := wk yX11_hide cX11_hide 2 (some .int)) B.pre w (List.mem_cons_of_mem _ h)
  have hown : s.vm.findClass RX11 = some m.cls := findClass_of_methodNamed B.named
  have hlocks := B.notSynchronized
  subst hsz
  have hD := hD0.self (sz := s.heap.size)
  generalize hAe : va_A [(h, .inr (11, [.ref h_0, .ref h_1, .ref h_2, .ref h_3, .ref h_4, .ref h_5, .ref h_6, .ref h_7, .ref h_8, .ref h_9, .ref h_10, .ref h_11, .ref h_12, .int h_13, .int h_14])), (h_5, .inr (1, [.ref h_5_0, .ref h_5_1, .ref h_5_2, .ref h_5_3, .ref h_5_4, .ref h_5_5, .ref h_5_6, .ref h_5_7, .ref h_5_8, .ref h_5_9, .ref h_5_10, .ref h_5_11, .ref h_5_12, .int 0]))] s.heap.size = A at hD ⊢
  have hA : ∀ q : Nat, s.heap.size ≤ q → A q := fun q h => by rw [← hAe]; exact Or.inr h
  have hS : va_S A s.heap s.heap [] := va_S.rf
  have hl := lv_entry ([.ref h, .int a1]) (n := 2) (Nat.le_of_ble_eq_true rfl)
  rw [lg_entry_eq]
  generalize (lg_sl ([.ref h, .int a1]) ++ List.replicate (2 - (lg_sl ([.ref h, .int a1])).length) Slot.unset).toArray = ls at hl ⊢
  have hl : lv_has ls 2 [(0, .ref h), (1, .int a1)] := hl
  refine lv_aload_n hx hb dX11_hide_0 rfl (lv_at hl 0 rfl) ?_
  refine va_get (D := D) (ci := 11) (v := .ref h_5) (C := RX11) (T := TX11) (N := 15) hx hb hg inX11 hown hK hP 0 rfl rfl 5 (by decide) (hg _ wd_688) (fun _ h9 => h9) rfl dX11_hide_1 ?_
  refine lv_iload_n hx hb dX11_hide_4 rfl (lv_at hl 1 rfl) ?_
  have hPc := hP.sub (ws' := [(h_5, .inr (1, [.ref h_5_0, .ref h_5_1, .ref h_5_2, .ref h_5_3, .ref h_5_4, .ref h_5_5, .ref h_5_6, .ref h_5_7, .ref h_5_8, .ref h_5_9, .ref h_5_10, .ref h_5_11, .ref h_5_12, .int 0]))]) [1] rfl
  refine z_calli (va_runV (As := [.int a1]) (rest := []) ⟨hx, hb, hml, hown, hg⟩ (c_holds0 l D ct h_5 a1 h_5_0 h_5_1 h_5_2 h_5_3 h_5_4 h_5_5 h_5_6 h_5_7 h_5_8 h_5_9 h_5_10 h_5_11 h_5_12 ) (cwV 1 hg (gd_V wd_992 wd_993 wd_994 wd_111 wd_995) rfl rfl rfl (by decide +kernel) ⟨Nat.le_of_ble_eq_true rfl, Nat.le_of_ble_eq_true rfl⟩) (Wr_V hPc hKK (va_recv hK hPc (ci := 1) (q0 := 0) rfl rfl)) rfl rfl hl.1 rfl (lv_room (Nat.le_of_ble_eq_true rfl)) dX11_hide_5 ⟨Nat.le_of_ble_eq_true rfl, Nat.le_of_ble_eq_true rfl⟩) (fun r_1 hw_1 => ?_)
  subst hw_1
  refine lv_if_ne (tgt := 18) hx hb dX11_hide_8 (by decide) (fun h => absurd (by decide) h) (fun _ => ?_)
  refine lv_aload_n hx hb dX11_hide_11 rfl (lv_at hl 0 rfl) ?_
  refine lv_bipush (v := (-2)) hx hb dX11_hide_12 (by decide) ?_
  have hPc := hP.sub (ws' := [(h, .inr (11, [.ref h_0, .ref h_1, .ref h_2, .ref h_3, .ref h_4, .ref h_5, .ref h_6, .ref h_7, .ref h_8, .ref h_9, .ref h_10, .ref h_11, .ref h_12, .int h_13, .int h_14]))]) [0] rfl
  have hDc := hD.sub (ws' := [(h, .inr (11, [.ref h_0, .ref h_1, .ref h_2, .ref h_3, .ref h_4, .ref h_5, .ref h_6, .ref h_7, .ref h_8, .ref h_9, .ref h_10, .ref h_11, .ref h_12, .int h_13, .int h_14]))]) [0] (by decide) rfl
  have hFc := va_free (wc := [(h, .inr (11, [.ref h_0, .ref h_1, .ref h_2, .ref h_3, .ref h_4, .ref h_5, .ref h_6, .ref h_7, .ref h_8, .ref h_9, .ref h_10, .ref h_11, .ref h_12, .int h_13, .int h_14]))]) hD hS hA [0] rfl
  refine va_calli (va_runV (As := [.int (-2)]) (rest := []) ⟨hx, hb, hml, hown, hg⟩ (c_refuse l D ct h (-2) h_0 h_1 h_2 h_3 h_4 h_5 h_6 h_7 h_8 h_9 h_10 h_11 h_12 h_13 h_14 s.heap.size ) (cwV 1 hg (gd_V wd_778 wd_780 wd_3 wd_107 wd_781) rfl rfl rfl (by decide +kernel) ⟨Nat.le_of_ble_eq_true rfl, Nat.le_of_ble_eq_true rfl⟩) (Wd_V hPc hKK hDc (va_recv hK hPc (ci := 11) (q0 := 0) rfl rfl)) rfl rfl hl.1 rfl (lv_room (Nat.le_of_ble_eq_true rfl)) dX11_hide_14 ⟨Nat.le_of_ble_eq_true rfl, Nat.le_of_ble_eq_true rfl⟩) hS (fun q _ h => hFc q h) hFc (fun r_3 u_3 t_3 H1 locs ht_3 hvm_3 hw_3 hB_3 hz_3 hk_3 hS => ?_)
  obtain ⟨hP, hD⟩ := va_join (wr := [(h_5, .inr (1, [.ref h_5_0, .ref h_5_1, .ref h_5_2, .ref h_5_3, .ref h_5_4, .ref h_5_5, .ref h_5_6, .ref h_5_7, .ref h_5_8, .ref h_5_9, .ref h_5_10, .ref h_5_11, .ref h_5_12, .int 0]))]) (w1 := []) hP hD [0] [1] rfl rfl (by decide) (by decide) hk_3 hFc (fun k q h => by simp at h) ⟨fun i j p q h => by simp at h, fun k q h => by simp at h⟩
  generalize H1 = H at hP hS ⊢
  have hP : va_P D vwCl [(h_5, .inr (1, [.ref h_5_0, .ref h_5_1, .ref h_5_2, .ref h_5_3, .ref h_5_4, .ref h_5_5, .ref h_5_6, .ref h_5_7, .ref h_5_8, .ref h_5_9, .ref h_5_10, .ref h_5_11, .ref h_5_12, .int 0]))] H := hP
  have hD : va_D A [(h_5, .inr (1, [.ref h_5_0, .ref h_5_1, .ref h_5_2, .ref h_5_3, .ref h_5_4, .ref h_5_5, .ref h_5_6, .ref h_5_7, .ref h_5_8, .ref h_5_9, .ref h_5_10, .ref h_5_11, .ref h_5_12, .int 0]))] := hD
  subst hw_3
  exact W.iret (v := (-2)) hx hb hr (fun t ht hW => ⟨⟨(-2), (), rfl, (by simp [sp_hide]), trivial⟩, hS.F ht⟩) hS.2.2 dX11_hide_17
def sp_act (a1 : Int32) (a2 : Int32) (a3 : Int32) (a4 : Int32) : Int32 := if bw a2 0 5 = 0 then (-1) else if bw a3 0 40000 = 0 then (-1) else if bw a4 0 40000 = 0 then (-1) else (-2)
theorem dX11_act_0 : decode cX11_act 0 = .ok (.iload_n 2, 1) := by decide +kernel
theorem dX11_act_1 : decode cX11_act 1 = .ok (.iconst 0, 1) := by decide +kernel
theorem dX11_act_2 : decode cX11_act 2 = .ok (.iconst 5, 1) := by decide +kernel
theorem dX11_act_3 : decode cX11_act 3 = .ok (.invokestatic 150, 3) := by decide +kernel
theorem dX11_act_6 : decode cX11_act 6 = .ok (.ifCond .eq 18, 3) := by decide +kernel
theorem dX11_act_24 : decode cX11_act 24 = .ok (.aload_n 0, 1) := by decide +kernel
theorem dX11_act_25 : decode cX11_act 25 = .ok (.iconst (-1), 1) := by decide +kernel
theorem dX11_act_26 : decode cX11_act 26 = .ok (.invokevirtual 118, 3) := by decide +kernel
theorem dX11_act_29 : decode cX11_act 29 = .ok (.ireturn, 1) := by decide +kernel
theorem dX11_act_9 : decode cX11_act 9 = .ok (.iload_n 3, 1) := by decide +kernel
theorem dX11_act_10 : decode cX11_act 10 = .ok (.invokestatic 159, 3) := by decide +kernel
theorem dX11_act_13 : decode cX11_act 13 = .ok (.ifCond .eq 11, 3) := by decide +kernel
theorem dX11_act_16 : decode cX11_act 16 = .ok (.iload 4, 2) := by decide +kernel
theorem dX11_act_18 : decode cX11_act 18 = .ok (.invokestatic 159, 3) := by decide +kernel
theorem dX11_act_21 : decode cX11_act 21 = .ok (.ifCond .ne 9, 3) := by decide +kernel
theorem dX11_act_30 : decode cX11_act 30 = .ok (.aload_n 0, 1) := by decide +kernel
theorem dX11_act_31 : decode cX11_act 31 = .ok (.getfield 39, 3) := by decide +kernel
theorem dX11_act_34 : decode cX11_act 34 = .ok (.iload_n 1, 1) := by decide +kernel
theorem dX11_act_35 : decode cX11_act 35 = .ok (.invokevirtual 190, 3) := by decide +kernel
theorem dX11_act_38 : decode cX11_act 38 = .ok (.ifCond .ne 10, 3) := by decide +kernel
theorem dX11_act_41 : decode cX11_act 41 = .ok (.aload_n 0, 1) := by decide +kernel
theorem dX11_act_42 : decode cX11_act 42 = .ok (.bipush (-2), 2) := by decide +kernel
theorem dX11_act_44 : decode cX11_act 44 = .ok (.invokevirtual 118, 3) := by decide +kernel
theorem dX11_act_47 : decode cX11_act 47 = .ok (.ireturn, 1) := by decide +kernel
set_option maxHeartbeats 4000000 in
set_option maxRecDepth 100000 in
theorem c_act (l : Launch) (D : va_G) (ct : Nat → ClassId) (h : Nat) (a1 : Int32) (a2 : Int32) (a3 : Int32) (a4 : Int32) (h_0 : Nat) (h_1 : Nat) (h_2 : Nat) (h_3 : Nat) (h_4 : Nat) (h_5 : Nat) (h_6 : Nat) (h_7 : Nat) (h_8 : Nat) (h_9 : Nat) (h_10 : Nat) (h_11 : Nat) (h_12 : Nat) (h_13 : Int32) (h_14 : Int32) (h_5_0 : Nat) (h_5_1 : Nat) (h_5_2 : Nat) (h_5_3 : Nat) (h_5_4 : Nat) (h_5_5 : Nat) (h_5_6 : Nat) (h_5_7 : Nat) (h_5_8 : Nat) (h_5_9 : Nat) (h_5_10 : Nat) (h_5_11 : Nat) (h_5_12 : Nat) (h_6_0 : Nat) (h_6_1 : Nat) (h_6_2 : Nat) (h_6_3 : Nat) (h_6_4 : Nat) (h_6_5 : Nat) (sz : Nat)  : Met l yX11_act (wk yX11_act cX11_act 5 (some .int)) { frames := 2, cells := 0, slots := 0, locals := 42 } (va_Pc [.ref h, .int a1, .int a2, .int a3, .int a4] (Wd D [(h, .inr (11, [.ref h_0, .ref h_1, .ref h_2, .ref h_3, .ref h_4, .ref h_5, .ref h_6, .ref h_7, .ref h_8, .ref h_9, .ref h_10, .ref h_11, .ref h_12, .int h_13, .int h_14])), (h_5, .inr (1, [.ref h_5_0, .ref h_5_1, .ref h_5_2, .ref h_5_3, .ref h_5_4, .ref h_5_5, .ref h_5_6, .ref h_5_7, .ref h_5_8, .ref h_5_9, .ref h_5_10, .ref h_5_11, .ref h_5_12, .int 0])), (h_6, .inr (0, [.ref h_6_0, .ref h_6_1, .ref h_6_2, .ref h_6_3, .ref h_6_4, .ref h_6_5, .int 0, .int 0]))] ct sz)) (va_Qi (fun (r : Int32) (u : Unit) => r = sp_act a1 a2 a3 a4) (fun _ _ => True) (va_A [(h, .inr (11, [.ref h_0, .ref h_1, .ref h_2, .ref h_3, .ref h_4, .ref h_5, .ref h_6, .ref h_7, .ref h_8, .ref h_9, .ref h_10, .ref h_11, .ref h_12, .int h_13, .int h_14])), (h_5, .inr (1, [.ref h_5_0, .ref h_5_1, .ref h_5_2, .ref h_5_3, .ref h_5_4, .ref h_5_5, .ref h_5_6, .ref h_5_7, .ref h_5_8, .ref h_5_9, .ref h_5_10, .ref h_5_11, .ref h_5_12, .int 0])), (h_6, .inr (0, [.ref h_6_0, .ref h_6_1, .ref h_6_2, .ref h_6_3, .ref h_6_4, .ref h_6_5, .int 0, .int 0]))] sz)) 0 0 (va_A [(h, .inr (11, [.ref h_0, .ref h_1, .ref h_2, .ref h_3, .ref h_4, .ref h_5, .ref h_6, .ref h_7, .ref h_8, .ref h_9, .ref h_10, .ref h_11, .ref h_12, .int h_13, .int h_14])), (h_5, .inr (1, [.ref h_5_0, .ref h_5_1, .ref h_5_2, .ref h_5_3, .ref h_5_4, .ref h_5_5, .ref h_5_6, .ref h_5_7, .ref h_5_8, .ref h_5_9, .ref h_5_10, .ref h_5_11, .ref h_5_12, .int 0])), (h_6, .inr (0, [.ref h_6_0, .ref h_6_1, .ref h_6_2, .ref h_6_3, .ref h_6_4, .ref h_6_5, .int 0, .int 0]))] sz) := by
  refine Met.ofW (cc := cX11_act) (maxL := 5) (ret := (some .int)) (by decide) rfl ?_
  intro p e s m args below meth c s₁ B hml hv
  obtain ⟨rfl, hsz, hP, hKK, hD0⟩ := hv
  have hK := hKK.1
  have hx := B.exec
  have hb := B.bytes
  have hr := B.returns
  have hg : ∀ w ∈ gl, w.before _ s = true := fun w h => atoms_spec (ws := wk yX11_act cX11_act 5 (some .int)) B.pre w (List.mem_cons_of_mem _ h)
  have hown : s.vm.findClass RX11 = some m.cls := findClass_of_methodNamed B.named
  have hlocks := B.notSynchronized
  subst hsz
  have hD := hD0.self (sz := s.heap.size)
  generalize hAe : va_A [(h, .inr (11, [.ref h_0, .ref h_1, .ref h_2, .ref h_3, .ref h_4, .ref h_5, .ref h_6, .ref h_7, .ref h_8, .ref h_9, .ref h_10, .ref h_11, .ref h_12, .int h_13, .int h_14])), (h_5, .inr (1, [.ref h_5_0, .ref h_5_1, .ref h_5_2, .ref h_5_3, .ref h_5_4, .ref h_5_5, .ref h_5_6, .ref h_5_7, .ref h_5_8, .ref h_5_9, .ref h_5_10, .ref h_5_11, .ref h_5_12, .int 0])), (h_6, .inr (0, [.ref h_6_0, .ref h_6_1, .ref h_6_2, .ref h_6_3, .ref h_6_4, .ref h_6_5, .int 0, .int 0]))] s.heap.size = A at hD ⊢
  have hA : ∀ q : Nat, s.heap.size ≤ q → A q := fun q h => by rw [← hAe]; exact Or.inr h
  have hS : va_S A s.heap s.heap [] := va_S.rf
  have hl := lv_entry ([.ref h, .int a1, .int a2, .int a3, .int a4]) (n := 5) (Nat.le_of_ble_eq_true rfl)
  rw [lg_entry_eq]
  generalize (lg_sl ([.ref h, .int a1, .int a2, .int a3, .int a4]) ++ List.replicate (5 - (lg_sl ([.ref h, .int a1, .int a2, .int a3, .int a4])).length) Slot.unset).toArray = ls at hl ⊢
  have hl : lv_has ls 5 [(0, .ref h), (1, .int a1), (2, .int a2), (3, .int a3), (4, .int a4)] := hl
  refine lv_iload_n hx hb dX11_act_0 rfl (lv_at hl 2 rfl) ?_
  refine lv_iconst (v := 0) hx hb dX11_act_1 (by decide) ?_
  refine lv_iconst (v := 5) hx hb dX11_act_2 (by decide) ?_
  have hPc := hP.sub (ws' := []) [] rfl
  refine z_calli (va_runS (As := [.int a2, .int 0, .int 5]) (rest := []) ⟨hx, hb, hml, hown, hg⟩ (c_within l D ct a2 0 5 ) (va_cwS 3 hg (gd_S wd_959 wd_917 wd_107 wd_918) rfl rfl rfl (by decide +kernel) ⟨Nat.le_of_ble_eq_true rfl, Nat.le_of_ble_eq_true rfl⟩) (Wr_S hPc hKK) rfl rfl hl.1 rfl (lv_room (Nat.le_of_ble_eq_true rfl)) dX11_act_3 ⟨Nat.le_of_ble_eq_true rfl, Nat.le_of_ble_eq_true rfl⟩) (fun r_1 hw_1 => ?_)
  subst hw_1
  refine lv_if_eq (tgt := 24) hx hb dX11_act_6 (by decide) (fun c_2 => ?_) (fun c_2 => ?_)
  · refine lv_aload_n hx hb dX11_act_24 rfl (lv_at hl 0 rfl) ?_
    refine lv_iconst (v := (-1)) hx hb dX11_act_25 (by decide) ?_
    have hPc := hP.sub (ws' := [(h, .inr (11, [.ref h_0, .ref h_1, .ref h_2, .ref h_3, .ref h_4, .ref h_5, .ref h_6, .ref h_7, .ref h_8, .ref h_9, .ref h_10, .ref h_11, .ref h_12, .int h_13, .int h_14]))]) [0] rfl
    have hDc := hD.sub (ws' := [(h, .inr (11, [.ref h_0, .ref h_1, .ref h_2, .ref h_3, .ref h_4, .ref h_5, .ref h_6, .ref h_7, .ref h_8, .ref h_9, .ref h_10, .ref h_11, .ref h_12, .int h_13, .int h_14]))]) [0] (by decide) rfl
    have hFc := va_free (wc := [(h, .inr (11, [.ref h_0, .ref h_1, .ref h_2, .ref h_3, .ref h_4, .ref h_5, .ref h_6, .ref h_7, .ref h_8, .ref h_9, .ref h_10, .ref h_11, .ref h_12, .int h_13, .int h_14]))]) hD hS hA [0] rfl
    refine va_calli (va_runV (As := [.int (-1)]) (rest := []) ⟨hx, hb, hml, hown, hg⟩ (c_refuse l D ct h (-1) h_0 h_1 h_2 h_3 h_4 h_5 h_6 h_7 h_8 h_9 h_10 h_11 h_12 h_13 h_14 s.heap.size ) (cwV 1 hg (gd_V wd_778 wd_780 wd_3 wd_107 wd_781) rfl rfl rfl (by decide +kernel) ⟨Nat.le_of_ble_eq_true rfl, Nat.le_of_ble_eq_true rfl⟩) (Wd_V hPc hKK hDc (va_recv hK hPc (ci := 11) (q0 := 0) rfl rfl)) rfl rfl hl.1 rfl (lv_room (Nat.le_of_ble_eq_true rfl)) dX11_act_26 ⟨Nat.le_of_ble_eq_true rfl, Nat.le_of_ble_eq_true rfl⟩) hS (fun q _ h => hFc q h) hFc (fun r_3 u_3 t_3 H1 locs ht_3 hvm_3 hw_3 hB_3 hz_3 hk_3 hS => ?_)
    obtain ⟨hP, hD⟩ := va_join (wr := [(h_5, .inr (1, [.ref h_5_0, .ref h_5_1, .ref h_5_2, .ref h_5_3, .ref h_5_4, .ref h_5_5, .ref h_5_6, .ref h_5_7, .ref h_5_8, .ref h_5_9, .ref h_5_10, .ref h_5_11, .ref h_5_12, .int 0])), (h_6, .inr (0, [.ref h_6_0, .ref h_6_1, .ref h_6_2, .ref h_6_3, .ref h_6_4, .ref h_6_5, .int 0, .int 0]))]) (w1 := []) hP hD [0] [1, 2] rfl rfl (by decide) (by decide) hk_3 hFc (fun k q h => by simp at h) ⟨fun i j p q h => by simp at h, fun k q h => by simp at h⟩
    generalize H1 = H at hP hS ⊢
    have hP : va_P D vwCl [(h_5, .inr (1, [.ref h_5_0, .ref h_5_1, .ref h_5_2, .ref h_5_3, .ref h_5_4, .ref h_5_5, .ref h_5_6, .ref h_5_7, .ref h_5_8, .ref h_5_9, .ref h_5_10, .ref h_5_11, .ref h_5_12, .int 0])), (h_6, .inr (0, [.ref h_6_0, .ref h_6_1, .ref h_6_2, .ref h_6_3, .ref h_6_4, .ref h_6_5, .int 0, .int 0]))] H := hP
    have hD : va_D A [(h_5, .inr (1, [.ref h_5_0, .ref h_5_1, .ref h_5_2, .ref h_5_3, .ref h_5_4, .ref h_5_5, .ref h_5_6, .ref h_5_7, .ref h_5_8, .ref h_5_9, .ref h_5_10, .ref h_5_11, .ref h_5_12, .int 0])), (h_6, .inr (0, [.ref h_6_0, .ref h_6_1, .ref h_6_2, .ref h_6_3, .ref h_6_4, .ref h_6_5, .int 0, .int 0]))] := hD
    subst hw_3
    exact W.iret (v := (-1)) hx hb hr (fun t ht hW => ⟨⟨(-1), (), rfl, (by simp [sp_act, c_2]), trivial⟩, hS.F ht⟩) hS.2.2 dX11_act_29
  · refine lv_iload_n hx hb dX11_act_9 rfl (lv_at hl 3 rfl) ?_
    have hPc := hP.sub (ws' := []) [] rfl
    refine z_calli (va_runS (As := [.int a3]) (rest := []) ⟨hx, hb, hml, hown, hg⟩ (c_isDay l D ct a3 ) (va_cwS 1 hg (gd_S wd_964 wd_965 wd_107 wd_966) rfl rfl rfl (by decide +kernel) ⟨Nat.le_of_ble_eq_true rfl, Nat.le_of_ble_eq_true rfl⟩) (Wr_S hPc hKK) rfl rfl hl.1 rfl (lv_room (Nat.le_of_ble_eq_true rfl)) dX11_act_10 ⟨Nat.le_of_ble_eq_true rfl, Nat.le_of_ble_eq_true rfl⟩) (fun r_4 hw_4 => ?_)
    subst hw_4
    refine lv_if_eq (tgt := 24) hx hb dX11_act_13 (by decide) (fun c_5 => ?_) (fun c_5 => ?_)
    · refine lv_aload_n hx hb dX11_act_24 rfl (lv_at hl 0 rfl) ?_
      refine lv_iconst (v := (-1)) hx hb dX11_act_25 (by decide) ?_
      have hPc := hP.sub (ws' := [(h, .inr (11, [.ref h_0, .ref h_1, .ref h_2, .ref h_3, .ref h_4, .ref h_5, .ref h_6, .ref h_7, .ref h_8, .ref h_9, .ref h_10, .ref h_11, .ref h_12, .int h_13, .int h_14]))]) [0] rfl
      have hDc := hD.sub (ws' := [(h, .inr (11, [.ref h_0, .ref h_1, .ref h_2, .ref h_3, .ref h_4, .ref h_5, .ref h_6, .ref h_7, .ref h_8, .ref h_9, .ref h_10, .ref h_11, .ref h_12, .int h_13, .int h_14]))]) [0] (by decide) rfl
      have hFc := va_free (wc := [(h, .inr (11, [.ref h_0, .ref h_1, .ref h_2, .ref h_3, .ref h_4, .ref h_5, .ref h_6, .ref h_7, .ref h_8, .ref h_9, .ref h_10, .ref h_11, .ref h_12, .int h_13, .int h_14]))]) hD hS hA [0] rfl
      refine va_calli (va_runV (As := [.int (-1)]) (rest := []) ⟨hx, hb, hml, hown, hg⟩ (c_refuse l D ct h (-1) h_0 h_1 h_2 h_3 h_4 h_5 h_6 h_7 h_8 h_9 h_10 h_11 h_12 h_13 h_14 s.heap.size ) (cwV 1 hg (gd_V wd_778 wd_780 wd_3 wd_107 wd_781) rfl rfl rfl (by decide +kernel) ⟨Nat.le_of_ble_eq_true rfl, Nat.le_of_ble_eq_true rfl⟩) (Wd_V hPc hKK hDc (va_recv hK hPc (ci := 11) (q0 := 0) rfl rfl)) rfl rfl hl.1 rfl (lv_room (Nat.le_of_ble_eq_true rfl)) dX11_act_26 ⟨Nat.le_of_ble_eq_true rfl, Nat.le_of_ble_eq_true rfl⟩) hS (fun q _ h => hFc q h) hFc (fun r_6 u_6 t_6 H1 locs ht_6 hvm_6 hw_6 hB_6 hz_6 hk_6 hS => ?_)
      obtain ⟨hP, hD⟩ := va_join (wr := [(h_5, .inr (1, [.ref h_5_0, .ref h_5_1, .ref h_5_2, .ref h_5_3, .ref h_5_4, .ref h_5_5, .ref h_5_6, .ref h_5_7, .ref h_5_8, .ref h_5_9, .ref h_5_10, .ref h_5_11, .ref h_5_12, .int 0])), (h_6, .inr (0, [.ref h_6_0, .ref h_6_1, .ref h_6_2, .ref h_6_3, .ref h_6_4, .ref h_6_5, .int 0, .int 0]))]) (w1 := []) hP hD [0] [1, 2] rfl rfl (by decide) (by decide) hk_6 hFc (fun k q h => by simp at h) ⟨fun i j p q h => by simp at h, fun k q h => by simp at h⟩
      generalize H1 = H at hP hS ⊢
      have hP : va_P D vwCl [(h_5, .inr (1, [.ref h_5_0, .ref h_5_1, .ref h_5_2, .ref h_5_3, .ref h_5_4, .ref h_5_5, .ref h_5_6, .ref h_5_7, .ref h_5_8, .ref h_5_9, .ref h_5_10, .ref h_5_11, .ref h_5_12, .int 0])), (h_6, .inr (0, [.ref h_6_0, .ref h_6_1, .ref h_6_2, .ref h_6_3, .ref h_6_4, .ref h_6_5, .int 0, .int 0]))] H := hP
      have hD : va_D A [(h_5, .inr (1, [.ref h_5_0, .ref h_5_1, .ref h_5_2, .ref h_5_3, .ref h_5_4, .ref h_5_5, .ref h_5_6, .ref h_5_7, .ref h_5_8, .ref h_5_9, .ref h_5_10, .ref h_5_11, .ref h_5_12, .int 0])), (h_6, .inr (0, [.ref h_6_0, .ref h_6_1, .ref h_6_2, .ref h_6_3, .ref h_6_4, .ref h_6_5, .int 0, .int 0]))] := hD
      subst hw_6
      exact W.iret (v := (-1)) hx hb hr (fun t ht hW => ⟨⟨(-1), (), rfl, (by simp [sp_act, c_2, c_5]), trivial⟩, hS.F ht⟩) hS.2.2 dX11_act_29
    · refine lv_iload hx hb dX11_act_16 (lv_at hl 4 rfl) ?_
      have hPc := hP.sub (ws' := []) [] rfl
      refine z_calli (va_runS (As := [.int a4]) (rest := []) ⟨hx, hb, hml, hown, hg⟩ (c_isDay l D ct a4 ) (va_cwS 1 hg (gd_S wd_964 wd_965 wd_107 wd_966) rfl rfl rfl (by decide +kernel) ⟨Nat.le_of_ble_eq_true rfl, Nat.le_of_ble_eq_true rfl⟩) (Wr_S hPc hKK) rfl rfl hl.1 rfl (lv_room (Nat.le_of_ble_eq_true rfl)) dX11_act_18 ⟨Nat.le_of_ble_eq_true rfl, Nat.le_of_ble_eq_true rfl⟩) (fun r_7 hw_7 => ?_)
      subst hw_7
      refine lv_if_ne (tgt := 30) hx hb dX11_act_21 (by decide) (fun c_8 => ?_) (fun c_8 => ?_)
      · refine lv_aload_n hx hb dX11_act_30 rfl (lv_at hl 0 rfl) ?_
        refine va_get (D := D) (ci := 11) (v := .ref h_5) (C := RX11) (T := TX11) (N := 15) hx hb hg inX11 hown hK hP 0 rfl rfl 5 (by decide) (hg _ wd_688) (fun _ h9 => h9) rfl dX11_act_31 ?_
        refine lv_iload_n hx hb dX11_act_34 rfl (lv_at hl 1 rfl) ?_
        have hPc := hP.sub (ws' := [(h_5, .inr (1, [.ref h_5_0, .ref h_5_1, .ref h_5_2, .ref h_5_3, .ref h_5_4, .ref h_5_5, .ref h_5_6, .ref h_5_7, .ref h_5_8, .ref h_5_9, .ref h_5_10, .ref h_5_11, .ref h_5_12, .int 0]))]) [1] rfl
        refine z_calli (va_runV (As := [.int a1]) (rest := []) ⟨hx, hb, hml, hown, hg⟩ (c_holds0 l D ct h_5 a1 h_5_0 h_5_1 h_5_2 h_5_3 h_5_4 h_5_5 h_5_6 h_5_7 h_5_8 h_5_9 h_5_10 h_5_11 h_5_12 ) (cwV 1 hg (gd_V wd_992 wd_993 wd_994 wd_111 wd_995) rfl rfl rfl (by decide +kernel) ⟨Nat.le_of_ble_eq_true rfl, Nat.le_of_ble_eq_true rfl⟩) (Wr_V hPc hKK (va_recv hK hPc (ci := 1) (q0 := 0) rfl rfl)) rfl rfl hl.1 rfl (lv_room (Nat.le_of_ble_eq_true rfl)) dX11_act_35 ⟨Nat.le_of_ble_eq_true rfl, Nat.le_of_ble_eq_true rfl⟩) (fun r_9 hw_9 => ?_)
        subst hw_9
        refine lv_if_ne (tgt := 48) hx hb dX11_act_38 (by decide) (fun h => absurd (by decide) h) (fun _ => ?_)
        refine lv_aload_n hx hb dX11_act_41 rfl (lv_at hl 0 rfl) ?_
        refine lv_bipush (v := (-2)) hx hb dX11_act_42 (by decide) ?_
        have hPc := hP.sub (ws' := [(h, .inr (11, [.ref h_0, .ref h_1, .ref h_2, .ref h_3, .ref h_4, .ref h_5, .ref h_6, .ref h_7, .ref h_8, .ref h_9, .ref h_10, .ref h_11, .ref h_12, .int h_13, .int h_14]))]) [0] rfl
        have hDc := hD.sub (ws' := [(h, .inr (11, [.ref h_0, .ref h_1, .ref h_2, .ref h_3, .ref h_4, .ref h_5, .ref h_6, .ref h_7, .ref h_8, .ref h_9, .ref h_10, .ref h_11, .ref h_12, .int h_13, .int h_14]))]) [0] (by decide) rfl
        have hFc := va_free (wc := [(h, .inr (11, [.ref h_0, .ref h_1, .ref h_2, .ref h_3, .ref h_4, .ref h_5, .ref h_6, .ref h_7, .ref h_8, .ref h_9, .ref h_10, .ref h_11, .ref h_12, .int h_13, .int h_14]))]) hD hS hA [0] rfl
        refine va_calli (va_runV (As := [.int (-2)]) (rest := []) ⟨hx, hb, hml, hown, hg⟩ (c_refuse l D ct h (-2) h_0 h_1 h_2 h_3 h_4 h_5 h_6 h_7 h_8 h_9 h_10 h_11 h_12 h_13 h_14 s.heap.size ) (cwV 1 hg (gd_V wd_778 wd_780 wd_3 wd_107 wd_781) rfl rfl rfl (by decide +kernel) ⟨Nat.le_of_ble_eq_true rfl, Nat.le_of_ble_eq_true rfl⟩) (Wd_V hPc hKK hDc (va_recv hK hPc (ci := 11) (q0 := 0) rfl rfl)) rfl rfl hl.1 rfl (lv_room (Nat.le_of_ble_eq_true rfl)) dX11_act_44 ⟨Nat.le_of_ble_eq_true rfl, Nat.le_of_ble_eq_true rfl⟩) hS (fun q _ h => hFc q h) hFc (fun r_11 u_11 t_11 H1 locs ht_11 hvm_11 hw_11 hB_11 hz_11 hk_11 hS => ?_)
        obtain ⟨hP, hD⟩ := va_join (wr := [(h_5, .inr (1, [.ref h_5_0, .ref h_5_1, .ref h_5_2, .ref h_5_3, .ref h_5_4, .ref h_5_5, .ref h_5_6, .ref h_5_7, .ref h_5_8, .ref h_5_9, .ref h_5_10, .ref h_5_11, .ref h_5_12, .int 0])), (h_6, .inr (0, [.ref h_6_0, .ref h_6_1, .ref h_6_2, .ref h_6_3, .ref h_6_4, .ref h_6_5, .int 0, .int 0]))]) (w1 := []) hP hD [0] [1, 2] rfl rfl (by decide) (by decide) hk_11 hFc (fun k q h => by simp at h) ⟨fun i j p q h => by simp at h, fun k q h => by simp at h⟩
        generalize H1 = H at hP hS ⊢
        have hP : va_P D vwCl [(h_5, .inr (1, [.ref h_5_0, .ref h_5_1, .ref h_5_2, .ref h_5_3, .ref h_5_4, .ref h_5_5, .ref h_5_6, .ref h_5_7, .ref h_5_8, .ref h_5_9, .ref h_5_10, .ref h_5_11, .ref h_5_12, .int 0])), (h_6, .inr (0, [.ref h_6_0, .ref h_6_1, .ref h_6_2, .ref h_6_3, .ref h_6_4, .ref h_6_5, .int 0, .int 0]))] H := hP
        have hD : va_D A [(h_5, .inr (1, [.ref h_5_0, .ref h_5_1, .ref h_5_2, .ref h_5_3, .ref h_5_4, .ref h_5_5, .ref h_5_6, .ref h_5_7, .ref h_5_8, .ref h_5_9, .ref h_5_10, .ref h_5_11, .ref h_5_12, .int 0])), (h_6, .inr (0, [.ref h_6_0, .ref h_6_1, .ref h_6_2, .ref h_6_3, .ref h_6_4, .ref h_6_5, .int 0, .int 0]))] := hD
        subst hw_11
        exact W.iret (v := (-2)) hx hb hr (fun t ht hW => ⟨⟨(-2), (), rfl, (by simp [sp_act, c_2, c_5, c_8]), trivial⟩, hS.F ht⟩) hS.2.2 dX11_act_47
      · refine lv_aload_n hx hb dX11_act_24 rfl (lv_at hl 0 rfl) ?_
        refine lv_iconst (v := (-1)) hx hb dX11_act_25 (by decide) ?_
        have hPc := hP.sub (ws' := [(h, .inr (11, [.ref h_0, .ref h_1, .ref h_2, .ref h_3, .ref h_4, .ref h_5, .ref h_6, .ref h_7, .ref h_8, .ref h_9, .ref h_10, .ref h_11, .ref h_12, .int h_13, .int h_14]))]) [0] rfl
        have hDc := hD.sub (ws' := [(h, .inr (11, [.ref h_0, .ref h_1, .ref h_2, .ref h_3, .ref h_4, .ref h_5, .ref h_6, .ref h_7, .ref h_8, .ref h_9, .ref h_10, .ref h_11, .ref h_12, .int h_13, .int h_14]))]) [0] (by decide) rfl
        have hFc := va_free (wc := [(h, .inr (11, [.ref h_0, .ref h_1, .ref h_2, .ref h_3, .ref h_4, .ref h_5, .ref h_6, .ref h_7, .ref h_8, .ref h_9, .ref h_10, .ref h_11, .ref h_12, .int h_13, .int h_14]))]) hD hS hA [0] rfl
        refine va_calli (va_runV (As := [.int (-1)]) (rest := []) ⟨hx, hb, hml, hown, hg⟩ (c_refuse l D ct h (-1) h_0 h_1 h_2 h_3 h_4 h_5 h_6 h_7 h_8 h_9 h_10 h_11 h_12 h_13 h_14 s.heap.size ) (cwV 1 hg (gd_V wd_778 wd_780 wd_3 wd_107 wd_781) rfl rfl rfl (by decide +kernel) ⟨Nat.le_of_ble_eq_true rfl, Nat.le_of_ble_eq_true rfl⟩) (Wd_V hPc hKK hDc (va_recv hK hPc (ci := 11) (q0 := 0) rfl rfl)) rfl rfl hl.1 rfl (lv_room (Nat.le_of_ble_eq_true rfl)) dX11_act_26 ⟨Nat.le_of_ble_eq_true rfl, Nat.le_of_ble_eq_true rfl⟩) hS (fun q _ h => hFc q h) hFc (fun r_12 u_12 t_12 H1 locs ht_12 hvm_12 hw_12 hB_12 hz_12 hk_12 hS => ?_)
        obtain ⟨hP, hD⟩ := va_join (wr := [(h_5, .inr (1, [.ref h_5_0, .ref h_5_1, .ref h_5_2, .ref h_5_3, .ref h_5_4, .ref h_5_5, .ref h_5_6, .ref h_5_7, .ref h_5_8, .ref h_5_9, .ref h_5_10, .ref h_5_11, .ref h_5_12, .int 0])), (h_6, .inr (0, [.ref h_6_0, .ref h_6_1, .ref h_6_2, .ref h_6_3, .ref h_6_4, .ref h_6_5, .int 0, .int 0]))]) (w1 := []) hP hD [0] [1, 2] rfl rfl (by decide) (by decide) hk_12 hFc (fun k q h => by simp at h) ⟨fun i j p q h => by simp at h, fun k q h => by simp at h⟩
        generalize H1 = H at hP hS ⊢
        have hP : va_P D vwCl [(h_5, .inr (1, [.ref h_5_0, .ref h_5_1, .ref h_5_2, .ref h_5_3, .ref h_5_4, .ref h_5_5, .ref h_5_6, .ref h_5_7, .ref h_5_8, .ref h_5_9, .ref h_5_10, .ref h_5_11, .ref h_5_12, .int 0])), (h_6, .inr (0, [.ref h_6_0, .ref h_6_1, .ref h_6_2, .ref h_6_3, .ref h_6_4, .ref h_6_5, .int 0, .int 0]))] H := hP
        have hD : va_D A [(h_5, .inr (1, [.ref h_5_0, .ref h_5_1, .ref h_5_2, .ref h_5_3, .ref h_5_4, .ref h_5_5, .ref h_5_6, .ref h_5_7, .ref h_5_8, .ref h_5_9, .ref h_5_10, .ref h_5_11, .ref h_5_12, .int 0])), (h_6, .inr (0, [.ref h_6_0, .ref h_6_1, .ref h_6_2, .ref h_6_3, .ref h_6_4, .ref h_6_5, .int 0, .int 0]))] := hD
        subst hw_12
        exact W.iret (v := (-1)) hx hb hr (fun t ht hW => ⟨⟨(-1), (), rfl, (by simp [sp_act, c_2, c_5, c_8]), trivial⟩, hS.F ht⟩) hS.2.2 dX11_act_29
def sp_cause (a1 : Int32) (a2 : Int32) (a3 : Int32) : Int32 := -1
theorem dX11_cause_0 : decode cX11_cause 0 = .ok (.aload_n 0, 1) := by decide +kernel
theorem dX11_cause_1 : decode cX11_cause 1 = .ok (.iload_n 1, 1) := by decide +kernel
theorem dX11_cause_2 : decode cX11_cause 2 = .ok (.iload_n 2, 1) := by decide +kernel
theorem dX11_cause_3 : decode cX11_cause 3 = .ok (.iload_n 3, 1) := by decide +kernel
theorem dX11_cause_4 : decode cX11_cause 4 = .ok (.invokevirtual 267, 3) := by decide +kernel
theorem dX11_cause_7 : decode cX11_cause 7 = .ok (.ifCond .ne 5, 3) := by decide +kernel
theorem dX11_cause_10 : decode cX11_cause 10 = .ok (.iconst (-1), 1) := by decide +kernel
theorem dX11_cause_11 : decode cX11_cause 11 = .ok (.ireturn, 1) := by decide +kernel
set_option maxHeartbeats 4000000 in
set_option maxRecDepth 100000 in
theorem c_cause (l : Launch) (D : va_G) (ct : Nat → ClassId) (h : Nat) (a1 : Int32) (a2 : Int32) (a3 : Int32) (h_0 : Nat) (h_1 : Nat) (h_2 : Nat) (h_3 : Nat) (h_4 : Nat) (h_5 : Nat) (h_6 : Nat) (h_7 : Nat) (h_8 : Nat) (h_9 : Nat) (h_10 : Nat) (h_11 : Nat) (h_12 : Nat) (h_13 : Int32) (h_14 : Int32) (h_5_0 : Nat) (h_5_1 : Nat) (h_5_2 : Nat) (h_5_3 : Nat) (h_5_4 : Nat) (h_5_5 : Nat) (h_5_6 : Nat) (h_5_7 : Nat) (h_5_8 : Nat) (h_5_9 : Nat) (h_5_10 : Nat) (h_5_11 : Nat) (h_5_12 : Nat) (sz : Nat)  : Met l yX11_cause (wk yX11_cause cX11_cause 4 (some .int)) { frames := 3, cells := 0, slots := 0, locals := 66 } (va_Pc [.ref h, .int a1, .int a2, .int a3] (Wd D [(h, .inr (11, [.ref h_0, .ref h_1, .ref h_2, .ref h_3, .ref h_4, .ref h_5, .ref h_6, .ref h_7, .ref h_8, .ref h_9, .ref h_10, .ref h_11, .ref h_12, .int h_13, .int h_14])), (h_5, .inr (1, [.ref h_5_0, .ref h_5_1, .ref h_5_2, .ref h_5_3, .ref h_5_4, .ref h_5_5, .ref h_5_6, .ref h_5_7, .ref h_5_8, .ref h_5_9, .ref h_5_10, .ref h_5_11, .ref h_5_12, .int 0]))] ct sz)) (va_Qi (fun (r : Int32) (u : Unit) => r = sp_cause a1 a2 a3) (fun _ _ => True) (va_A [(h, .inr (11, [.ref h_0, .ref h_1, .ref h_2, .ref h_3, .ref h_4, .ref h_5, .ref h_6, .ref h_7, .ref h_8, .ref h_9, .ref h_10, .ref h_11, .ref h_12, .int h_13, .int h_14])), (h_5, .inr (1, [.ref h_5_0, .ref h_5_1, .ref h_5_2, .ref h_5_3, .ref h_5_4, .ref h_5_5, .ref h_5_6, .ref h_5_7, .ref h_5_8, .ref h_5_9, .ref h_5_10, .ref h_5_11, .ref h_5_12, .int 0]))] sz)) 0 0 (va_A [(h, .inr (11, [.ref h_0, .ref h_1, .ref h_2, .ref h_3, .ref h_4, .ref h_5, .ref h_6, .ref h_7, .ref h_8, .ref h_9, .ref h_10, .ref h_11, .ref h_12, .int h_13, .int h_14])), (h_5, .inr (1, [.ref h_5_0, .ref h_5_1, .ref h_5_2, .ref h_5_3, .ref h_5_4, .ref h_5_5, .ref h_5_6, .ref h_5_7, .ref h_5_8, .ref h_5_9, .ref h_5_10, .ref h_5_11, .ref h_5_12, .int 0]))] sz) := by
  refine Met.ofW (cc := cX11_cause) (maxL := 4) (ret := (some .int)) (by decide) rfl ?_
  intro p e s m args below meth c s₁ B hml hv
  obtain ⟨rfl, hsz, hP, hKK, hD0⟩ := hv
  have hK := hKK.1
  have hx := B.exec
  have hb := B.bytes
  have hr := B.returns
  have hg : ∀ w ∈ gl, w.before _ s = true := fun w h => atoms_spec (ws := wk yX11_cause cX11_cause 4 (some .int)) B.pre w (List.mem_cons_of_mem _ h)
  have hown : s.vm.findClass RX11 = some m.cls := findClass_of_methodNamed B.named
  have hlocks := B.notSynchronized
  subst hsz
  have hD := hD0.self (sz := s.heap.size)
  generalize hAe : va_A [(h, .inr (11, [.ref h_0, .ref h_1, .ref h_2, .ref h_3, .ref h_4, .ref h_5, .ref h_6, .ref h_7, .ref h_8, .ref h_9, .ref h_10, .ref h_11, .ref h_12, .int h_13, .int h_14])), (h_5, .inr (1, [.ref h_5_0, .ref h_5_1, .ref h_5_2, .ref h_5_3, .ref h_5_4, .ref h_5_5, .ref h_5_6, .ref h_5_7, .ref h_5_8, .ref h_5_9, .ref h_5_10, .ref h_5_11, .ref h_5_12, .int 0]))] s.heap.size = A at hD ⊢
  have hA : ∀ q : Nat, s.heap.size ≤ q → A q := fun q h => by rw [← hAe]; exact Or.inr h
  have hS : va_S A s.heap s.heap [] := va_S.rf
  have hl := lv_entry ([.ref h, .int a1, .int a2, .int a3]) (n := 4) (Nat.le_of_ble_eq_true rfl)
  rw [lg_entry_eq]
  generalize (lg_sl ([.ref h, .int a1, .int a2, .int a3]) ++ List.replicate (4 - (lg_sl ([.ref h, .int a1, .int a2, .int a3])).length) Slot.unset).toArray = ls at hl ⊢
  have hl : lv_has ls 4 [(0, .ref h), (1, .int a1), (2, .int a2), (3, .int a3)] := hl
  refine lv_aload_n hx hb dX11_cause_0 rfl (lv_at hl 0 rfl) ?_
  refine lv_iload_n hx hb dX11_cause_1 rfl (lv_at hl 1 rfl) ?_
  refine lv_iload_n hx hb dX11_cause_2 rfl (lv_at hl 2 rfl) ?_
  refine lv_iload_n hx hb dX11_cause_3 rfl (lv_at hl 3 rfl) ?_
  have hPc := hP.sub (ws' := [(h, .inr (11, [.ref h_0, .ref h_1, .ref h_2, .ref h_3, .ref h_4, .ref h_5, .ref h_6, .ref h_7, .ref h_8, .ref h_9, .ref h_10, .ref h_11, .ref h_12, .int h_13, .int h_14])), (h_5, .inr (1, [.ref h_5_0, .ref h_5_1, .ref h_5_2, .ref h_5_3, .ref h_5_4, .ref h_5_5, .ref h_5_6, .ref h_5_7, .ref h_5_8, .ref h_5_9, .ref h_5_10, .ref h_5_11, .ref h_5_12, .int 0]))]) [0, 1] rfl
  refine z_calli (va_runV (As := [.int a1, .int a2, .int a3]) (rest := []) ⟨hx, hb, hml, hown, hg⟩ (c_lookAt0 l D ct h a1 a2 a3 h_0 h_1 h_2 h_3 h_4 h_5 h_6 h_7 h_8 h_9 h_10 h_11 h_12 h_13 h_14 h_5_0 h_5_1 h_5_2 h_5_3 h_5_4 h_5_5 h_5_6 h_5_7 h_5_8 h_5_9 h_5_10 h_5_11 h_5_12 ) (cwV 3 hg (gd_V wd_1103 wd_1105 wd_22 wd_107 wd_1106) rfl rfl rfl (by decide +kernel) ⟨Nat.le_of_ble_eq_true rfl, Nat.le_of_ble_eq_true rfl⟩) (Wr_V hPc hKK (va_recv hK hPc (ci := 11) (q0 := 0) rfl rfl)) rfl rfl hl.1 rfl (lv_room (Nat.le_of_ble_eq_true rfl)) dX11_cause_4 ⟨Nat.le_of_ble_eq_true rfl, Nat.le_of_ble_eq_true rfl⟩) (fun r_1 hw_1 => ?_)
  subst hw_1
  refine lv_if_ne (tgt := 12) hx hb dX11_cause_7 (by decide) (fun h => absurd (by decide) h) (fun _ => ?_)
  refine lv_iconst (v := (-1)) hx hb dX11_cause_10 (by decide) ?_
  exact W.iret (v := (-1)) hx hb hr (fun t ht hW => ⟨⟨(-1), (), rfl, (by simp [sp_cause]), trivial⟩, hS.F ht⟩) hS.2.2 dX11_cause_11
def sp_line (a1 : Int32) (a2 : Int32) (a3 : Int32) : Int32 := -1
theorem dX11_line_0 : decode cX11_line 0 = .ok (.aload_n 0, 1) := by decide +kernel
theorem dX11_line_1 : decode cX11_line 1 = .ok (.iload_n 1, 1) := by decide +kernel
theorem dX11_line_2 : decode cX11_line 2 = .ok (.iload_n 2, 1) := by decide +kernel
theorem dX11_line_3 : decode cX11_line 3 = .ok (.iload_n 3, 1) := by decide +kernel
theorem dX11_line_4 : decode cX11_line 4 = .ok (.invokevirtual 267, 3) := by decide +kernel
theorem dX11_line_7 : decode cX11_line 7 = .ok (.ifCond .ne 5, 3) := by decide +kernel
theorem dX11_line_10 : decode cX11_line 10 = .ok (.iconst (-1), 1) := by decide +kernel
theorem dX11_line_11 : decode cX11_line 11 = .ok (.ireturn, 1) := by decide +kernel
set_option maxHeartbeats 4000000 in
set_option maxRecDepth 100000 in
theorem c_line (l : Launch) (D : va_G) (ct : Nat → ClassId) (h : Nat) (a1 : Int32) (a2 : Int32) (a3 : Int32) (h_0 : Nat) (h_1 : Nat) (h_2 : Nat) (h_3 : Nat) (h_4 : Nat) (h_5 : Nat) (h_6 : Nat) (h_7 : Nat) (h_8 : Nat) (h_9 : Nat) (h_10 : Nat) (h_11 : Nat) (h_12 : Nat) (h_13 : Int32) (h_14 : Int32) (h_5_0 : Nat) (h_5_1 : Nat) (h_5_2 : Nat) (h_5_3 : Nat) (h_5_4 : Nat) (h_5_5 : Nat) (h_5_6 : Nat) (h_5_7 : Nat) (h_5_8 : Nat) (h_5_9 : Nat) (h_5_10 : Nat) (h_5_11 : Nat) (h_5_12 : Nat) (sz : Nat)  : Met l yX11_line (wk yX11_line cX11_line 4 (some .int)) { frames := 3, cells := 0, slots := 0, locals := 66 } (va_Pc [.ref h, .int a1, .int a2, .int a3] (Wd D [(h, .inr (11, [.ref h_0, .ref h_1, .ref h_2, .ref h_3, .ref h_4, .ref h_5, .ref h_6, .ref h_7, .ref h_8, .ref h_9, .ref h_10, .ref h_11, .ref h_12, .int h_13, .int h_14])), (h_5, .inr (1, [.ref h_5_0, .ref h_5_1, .ref h_5_2, .ref h_5_3, .ref h_5_4, .ref h_5_5, .ref h_5_6, .ref h_5_7, .ref h_5_8, .ref h_5_9, .ref h_5_10, .ref h_5_11, .ref h_5_12, .int 0]))] ct sz)) (va_Qi (fun (r : Int32) (u : Unit) => r = sp_line a1 a2 a3) (fun _ _ => True) (va_A [(h, .inr (11, [.ref h_0, .ref h_1, .ref h_2, .ref h_3, .ref h_4, .ref h_5, .ref h_6, .ref h_7, .ref h_8, .ref h_9, .ref h_10, .ref h_11, .ref h_12, .int h_13, .int h_14])), (h_5, .inr (1, [.ref h_5_0, .ref h_5_1, .ref h_5_2, .ref h_5_3, .ref h_5_4, .ref h_5_5, .ref h_5_6, .ref h_5_7, .ref h_5_8, .ref h_5_9, .ref h_5_10, .ref h_5_11, .ref h_5_12, .int 0]))] sz)) 0 0 (va_A [(h, .inr (11, [.ref h_0, .ref h_1, .ref h_2, .ref h_3, .ref h_4, .ref h_5, .ref h_6, .ref h_7, .ref h_8, .ref h_9, .ref h_10, .ref h_11, .ref h_12, .int h_13, .int h_14])), (h_5, .inr (1, [.ref h_5_0, .ref h_5_1, .ref h_5_2, .ref h_5_3, .ref h_5_4, .ref h_5_5, .ref h_5_6, .ref h_5_7, .ref h_5_8, .ref h_5_9, .ref h_5_10, .ref h_5_11, .ref h_5_12, .int 0]))] sz) := by
  refine Met.ofW (cc := cX11_line) (maxL := 4) (ret := (some .int)) (by decide) rfl ?_
  intro p e s m args below meth c s₁ B hml hv
  obtain ⟨rfl, hsz, hP, hKK, hD0⟩ := hv
  have hK := hKK.1
  have hx := B.exec
  have hb := B.bytes
  have hr := B.returns
  have hg : ∀ w ∈ gl, w.before _ s = true := fun w h => atoms_spec (ws := wk yX11_line cX11_line 4 (some .int)) B.pre w (List.mem_cons_of_mem _ h)
  have hown : s.vm.findClass RX11 = some m.cls := findClass_of_methodNamed B.named
  have hlocks := B.notSynchronized
  subst hsz
  have hD := hD0.self (sz := s.heap.size)
  generalize hAe : va_A [(h, .inr (11, [.ref h_0, .ref h_1, .ref h_2, .ref h_3, .ref h_4, .ref h_5, .ref h_6, .ref h_7, .ref h_8, .ref h_9, .ref h_10, .ref h_11, .ref h_12, .int h_13, .int h_14])), (h_5, .inr (1, [.ref h_5_0, .ref h_5_1, .ref h_5_2, .ref h_5_3, .ref h_5_4, .ref h_5_5, .ref h_5_6, .ref h_5_7, .ref h_5_8, .ref h_5_9, .ref h_5_10, .ref h_5_11, .ref h_5_12, .int 0]))] s.heap.size = A at hD ⊢
  have hA : ∀ q : Nat, s.heap.size ≤ q → A q := fun q h => by rw [← hAe]; exact Or.inr h
  have hS : va_S A s.heap s.heap [] := va_S.rf
  have hl := lv_entry ([.ref h, .int a1, .int a2, .int a3]) (n := 4) (Nat.le_of_ble_eq_true rfl)
  rw [lg_entry_eq]
  generalize (lg_sl ([.ref h, .int a1, .int a2, .int a3]) ++ List.replicate (4 - (lg_sl ([.ref h, .int a1, .int a2, .int a3])).length) Slot.unset).toArray = ls at hl ⊢
  have hl : lv_has ls 4 [(0, .ref h), (1, .int a1), (2, .int a2), (3, .int a3)] := hl
  refine lv_aload_n hx hb dX11_line_0 rfl (lv_at hl 0 rfl) ?_
  refine lv_iload_n hx hb dX11_line_1 rfl (lv_at hl 1 rfl) ?_
  refine lv_iload_n hx hb dX11_line_2 rfl (lv_at hl 2 rfl) ?_
  refine lv_iload_n hx hb dX11_line_3 rfl (lv_at hl 3 rfl) ?_
  have hPc := hP.sub (ws' := [(h, .inr (11, [.ref h_0, .ref h_1, .ref h_2, .ref h_3, .ref h_4, .ref h_5, .ref h_6, .ref h_7, .ref h_8, .ref h_9, .ref h_10, .ref h_11, .ref h_12, .int h_13, .int h_14])), (h_5, .inr (1, [.ref h_5_0, .ref h_5_1, .ref h_5_2, .ref h_5_3, .ref h_5_4, .ref h_5_5, .ref h_5_6, .ref h_5_7, .ref h_5_8, .ref h_5_9, .ref h_5_10, .ref h_5_11, .ref h_5_12, .int 0]))]) [0, 1] rfl
  refine z_calli (va_runV (As := [.int a1, .int a2, .int a3]) (rest := []) ⟨hx, hb, hml, hown, hg⟩ (c_lookAt0 l D ct h a1 a2 a3 h_0 h_1 h_2 h_3 h_4 h_5 h_6 h_7 h_8 h_9 h_10 h_11 h_12 h_13 h_14 h_5_0 h_5_1 h_5_2 h_5_3 h_5_4 h_5_5 h_5_6 h_5_7 h_5_8 h_5_9 h_5_10 h_5_11 h_5_12 ) (cwV 3 hg (gd_V wd_1103 wd_1105 wd_22 wd_107 wd_1106) rfl rfl rfl (by decide +kernel) ⟨Nat.le_of_ble_eq_true rfl, Nat.le_of_ble_eq_true rfl⟩) (Wr_V hPc hKK (va_recv hK hPc (ci := 11) (q0 := 0) rfl rfl)) rfl rfl hl.1 rfl (lv_room (Nat.le_of_ble_eq_true rfl)) dX11_line_4 ⟨Nat.le_of_ble_eq_true rfl, Nat.le_of_ble_eq_true rfl⟩) (fun r_1 hw_1 => ?_)
  subst hw_1
  refine lv_if_ne (tgt := 12) hx hb dX11_line_7 (by decide) (fun h => absurd (by decide) h) (fun _ => ?_)
  refine lv_iconst (v := (-1)) hx hb dX11_line_10 (by decide) ?_
  exact W.iret (v := (-1)) hx hb hr (fun t ht hW => ⟨⟨(-1), (), rfl, (by simp [sp_line]), trivial⟩, hS.F ht⟩) hS.2.2 dX11_line_11
def sp_since (a1 : Int32) (a2 : Int32) (a3 : Int32) : Int32 := -1
theorem dX11_since_0 : decode cX11_since 0 = .ok (.aload_n 0, 1) := by decide +kernel
theorem dX11_since_1 : decode cX11_since 1 = .ok (.iload_n 1, 1) := by decide +kernel
theorem dX11_since_2 : decode cX11_since 2 = .ok (.iload_n 2, 1) := by decide +kernel
theorem dX11_since_3 : decode cX11_since 3 = .ok (.iload_n 3, 1) := by decide +kernel
theorem dX11_since_4 : decode cX11_since 4 = .ok (.invokevirtual 267, 3) := by decide +kernel
theorem dX11_since_7 : decode cX11_since 7 = .ok (.ifCond .ne 5, 3) := by decide +kernel
theorem dX11_since_10 : decode cX11_since 10 = .ok (.iconst (-1), 1) := by decide +kernel
theorem dX11_since_11 : decode cX11_since 11 = .ok (.ireturn, 1) := by decide +kernel
set_option maxHeartbeats 4000000 in
set_option maxRecDepth 100000 in
theorem c_since (l : Launch) (D : va_G) (ct : Nat → ClassId) (h : Nat) (a1 : Int32) (a2 : Int32) (a3 : Int32) (h_0 : Nat) (h_1 : Nat) (h_2 : Nat) (h_3 : Nat) (h_4 : Nat) (h_5 : Nat) (h_6 : Nat) (h_7 : Nat) (h_8 : Nat) (h_9 : Nat) (h_10 : Nat) (h_11 : Nat) (h_12 : Nat) (h_13 : Int32) (h_14 : Int32) (h_5_0 : Nat) (h_5_1 : Nat) (h_5_2 : Nat) (h_5_3 : Nat) (h_5_4 : Nat) (h_5_5 : Nat) (h_5_6 : Nat) (h_5_7 : Nat) (h_5_8 : Nat) (h_5_9 : Nat) (h_5_10 : Nat) (h_5_11 : Nat) (h_5_12 : Nat) (sz : Nat)  : Met l yX11_since (wk yX11_since cX11_since 4 (some .int)) { frames := 3, cells := 0, slots := 0, locals := 66 } (va_Pc [.ref h, .int a1, .int a2, .int a3] (Wd D [(h, .inr (11, [.ref h_0, .ref h_1, .ref h_2, .ref h_3, .ref h_4, .ref h_5, .ref h_6, .ref h_7, .ref h_8, .ref h_9, .ref h_10, .ref h_11, .ref h_12, .int h_13, .int h_14])), (h_5, .inr (1, [.ref h_5_0, .ref h_5_1, .ref h_5_2, .ref h_5_3, .ref h_5_4, .ref h_5_5, .ref h_5_6, .ref h_5_7, .ref h_5_8, .ref h_5_9, .ref h_5_10, .ref h_5_11, .ref h_5_12, .int 0]))] ct sz)) (va_Qi (fun (r : Int32) (u : Unit) => r = sp_since a1 a2 a3) (fun _ _ => True) (va_A [(h, .inr (11, [.ref h_0, .ref h_1, .ref h_2, .ref h_3, .ref h_4, .ref h_5, .ref h_6, .ref h_7, .ref h_8, .ref h_9, .ref h_10, .ref h_11, .ref h_12, .int h_13, .int h_14])), (h_5, .inr (1, [.ref h_5_0, .ref h_5_1, .ref h_5_2, .ref h_5_3, .ref h_5_4, .ref h_5_5, .ref h_5_6, .ref h_5_7, .ref h_5_8, .ref h_5_9, .ref h_5_10, .ref h_5_11, .ref h_5_12, .int 0]))] sz)) 0 0 (va_A [(h, .inr (11, [.ref h_0, .ref h_1, .ref h_2, .ref h_3, .ref h_4, .ref h_5, .ref h_6, .ref h_7, .ref h_8, .ref h_9, .ref h_10, .ref h_11, .ref h_12, .int h_13, .int h_14])), (h_5, .inr (1, [.ref h_5_0, .ref h_5_1, .ref h_5_2, .ref h_5_3, .ref h_5_4, .ref h_5_5, .ref h_5_6, .ref h_5_7, .ref h_5_8, .ref h_5_9, .ref h_5_10, .ref h_5_11, .ref h_5_12, .int 0]))] sz) := by
  refine Met.ofW (cc := cX11_since) (maxL := 4) (ret := (some .int)) (by decide) rfl ?_
  intro p e s m args below meth c s₁ B hml hv
  obtain ⟨rfl, hsz, hP, hKK, hD0⟩ := hv
  have hK := hKK.1
  have hx := B.exec
  have hb := B.bytes
  have hr := B.returns
  have hg : ∀ w ∈ gl, w.before _ s = true := fun w h => atoms_spec (ws := wk yX11_since cX11_since 4 (some .int)) B.pre w (List.mem_cons_of_mem _ h)
  have hown : s.vm.findClass RX11 = some m.cls := findClass_of_methodNamed B.named
  have hlocks := B.notSynchronized
  subst hsz
  have hD := hD0.self (sz := s.heap.size)
  generalize hAe : va_A [(h, .inr (11, [.ref h_0, .ref h_1, .ref h_2, .ref h_3, .ref h_4, .ref h_5, .ref h_6, .ref h_7, .ref h_8, .ref h_9, .ref h_10, .ref h_11, .ref h_12, .int h_13, .int h_14])), (h_5, .inr (1, [.ref h_5_0, .ref h_5_1, .ref h_5_2, .ref h_5_3, .ref h_5_4, .ref h_5_5, .ref h_5_6, .ref h_5_7, .ref h_5_8, .ref h_5_9, .ref h_5_10, .ref h_5_11, .ref h_5_12, .int 0]))] s.heap.size = A at hD ⊢
  have hA : ∀ q : Nat, s.heap.size ≤ q → A q := fun q h => by rw [← hAe]; exact Or.inr h
  have hS : va_S A s.heap s.heap [] := va_S.rf
  have hl := lv_entry ([.ref h, .int a1, .int a2, .int a3]) (n := 4) (Nat.le_of_ble_eq_true rfl)
  rw [lg_entry_eq]
  generalize (lg_sl ([.ref h, .int a1, .int a2, .int a3]) ++ List.replicate (4 - (lg_sl ([.ref h, .int a1, .int a2, .int a3])).length) Slot.unset).toArray = ls at hl ⊢
  have hl : lv_has ls 4 [(0, .ref h), (1, .int a1), (2, .int a2), (3, .int a3)] := hl
  refine lv_aload_n hx hb dX11_since_0 rfl (lv_at hl 0 rfl) ?_
  refine lv_iload_n hx hb dX11_since_1 rfl (lv_at hl 1 rfl) ?_
  refine lv_iload_n hx hb dX11_since_2 rfl (lv_at hl 2 rfl) ?_
  refine lv_iload_n hx hb dX11_since_3 rfl (lv_at hl 3 rfl) ?_
  have hPc := hP.sub (ws' := [(h, .inr (11, [.ref h_0, .ref h_1, .ref h_2, .ref h_3, .ref h_4, .ref h_5, .ref h_6, .ref h_7, .ref h_8, .ref h_9, .ref h_10, .ref h_11, .ref h_12, .int h_13, .int h_14])), (h_5, .inr (1, [.ref h_5_0, .ref h_5_1, .ref h_5_2, .ref h_5_3, .ref h_5_4, .ref h_5_5, .ref h_5_6, .ref h_5_7, .ref h_5_8, .ref h_5_9, .ref h_5_10, .ref h_5_11, .ref h_5_12, .int 0]))]) [0, 1] rfl
  refine z_calli (va_runV (As := [.int a1, .int a2, .int a3]) (rest := []) ⟨hx, hb, hml, hown, hg⟩ (c_lookAt0 l D ct h a1 a2 a3 h_0 h_1 h_2 h_3 h_4 h_5 h_6 h_7 h_8 h_9 h_10 h_11 h_12 h_13 h_14 h_5_0 h_5_1 h_5_2 h_5_3 h_5_4 h_5_5 h_5_6 h_5_7 h_5_8 h_5_9 h_5_10 h_5_11 h_5_12 ) (cwV 3 hg (gd_V wd_1103 wd_1105 wd_22 wd_107 wd_1106) rfl rfl rfl (by decide +kernel) ⟨Nat.le_of_ble_eq_true rfl, Nat.le_of_ble_eq_true rfl⟩) (Wr_V hPc hKK (va_recv hK hPc (ci := 11) (q0 := 0) rfl rfl)) rfl rfl hl.1 rfl (lv_room (Nat.le_of_ble_eq_true rfl)) dX11_since_4 ⟨Nat.le_of_ble_eq_true rfl, Nat.le_of_ble_eq_true rfl⟩) (fun r_1 hw_1 => ?_)
  subst hw_1
  refine lv_if_ne (tgt := 12) hx hb dX11_since_7 (by decide) (fun h => absurd (by decide) h) (fun _ => ?_)
  refine lv_iconst (v := (-1)) hx hb dX11_since_10 (by decide) ?_
  exact W.iret (v := (-1)) hx hb hr (fun t ht hW => ⟨⟨(-1), (), rfl, (by simp [sp_since]), trivial⟩, hS.F ht⟩) hS.2.2 dX11_since_11
def sp_may (a1 : Int32) (a2 : Int32) (a3 : Int32) : Int32 := -1
theorem dX11_may_0 : decode cX11_may 0 = .ok (.aload_n 0, 1) := by decide +kernel
theorem dX11_may_1 : decode cX11_may 1 = .ok (.iload_n 1, 1) := by decide +kernel
theorem dX11_may_2 : decode cX11_may 2 = .ok (.iload_n 2, 1) := by decide +kernel
theorem dX11_may_3 : decode cX11_may 3 = .ok (.iload_n 3, 1) := by decide +kernel
theorem dX11_may_4 : decode cX11_may 4 = .ok (.invokevirtual 267, 3) := by decide +kernel
theorem dX11_may_7 : decode cX11_may 7 = .ok (.ifCond .ne 5, 3) := by decide +kernel
theorem dX11_may_10 : decode cX11_may 10 = .ok (.iconst (-1), 1) := by decide +kernel
theorem dX11_may_11 : decode cX11_may 11 = .ok (.ireturn, 1) := by decide +kernel
set_option maxHeartbeats 4000000 in
set_option maxRecDepth 100000 in
theorem c_may (l : Launch) (D : va_G) (ct : Nat → ClassId) (h : Nat) (a1 : Int32) (a2 : Int32) (a3 : Int32) (h_0 : Nat) (h_1 : Nat) (h_2 : Nat) (h_3 : Nat) (h_4 : Nat) (h_5 : Nat) (h_6 : Nat) (h_7 : Nat) (h_8 : Nat) (h_9 : Nat) (h_10 : Nat) (h_11 : Nat) (h_12 : Nat) (h_13 : Int32) (h_14 : Int32) (h_5_0 : Nat) (h_5_1 : Nat) (h_5_2 : Nat) (h_5_3 : Nat) (h_5_4 : Nat) (h_5_5 : Nat) (h_5_6 : Nat) (h_5_7 : Nat) (h_5_8 : Nat) (h_5_9 : Nat) (h_5_10 : Nat) (h_5_11 : Nat) (h_5_12 : Nat) (sz : Nat)  : Met l yX11_may (wk yX11_may cX11_may 4 (some .int)) { frames := 3, cells := 0, slots := 0, locals := 66 } (va_Pc [.ref h, .int a1, .int a2, .int a3] (Wd D [(h, .inr (11, [.ref h_0, .ref h_1, .ref h_2, .ref h_3, .ref h_4, .ref h_5, .ref h_6, .ref h_7, .ref h_8, .ref h_9, .ref h_10, .ref h_11, .ref h_12, .int h_13, .int h_14])), (h_5, .inr (1, [.ref h_5_0, .ref h_5_1, .ref h_5_2, .ref h_5_3, .ref h_5_4, .ref h_5_5, .ref h_5_6, .ref h_5_7, .ref h_5_8, .ref h_5_9, .ref h_5_10, .ref h_5_11, .ref h_5_12, .int 0]))] ct sz)) (va_Qi (fun (r : Int32) (u : Unit) => r = sp_may a1 a2 a3) (fun _ _ => True) (va_A [(h, .inr (11, [.ref h_0, .ref h_1, .ref h_2, .ref h_3, .ref h_4, .ref h_5, .ref h_6, .ref h_7, .ref h_8, .ref h_9, .ref h_10, .ref h_11, .ref h_12, .int h_13, .int h_14])), (h_5, .inr (1, [.ref h_5_0, .ref h_5_1, .ref h_5_2, .ref h_5_3, .ref h_5_4, .ref h_5_5, .ref h_5_6, .ref h_5_7, .ref h_5_8, .ref h_5_9, .ref h_5_10, .ref h_5_11, .ref h_5_12, .int 0]))] sz)) 0 0 (va_A [(h, .inr (11, [.ref h_0, .ref h_1, .ref h_2, .ref h_3, .ref h_4, .ref h_5, .ref h_6, .ref h_7, .ref h_8, .ref h_9, .ref h_10, .ref h_11, .ref h_12, .int h_13, .int h_14])), (h_5, .inr (1, [.ref h_5_0, .ref h_5_1, .ref h_5_2, .ref h_5_3, .ref h_5_4, .ref h_5_5, .ref h_5_6, .ref h_5_7, .ref h_5_8, .ref h_5_9, .ref h_5_10, .ref h_5_11, .ref h_5_12, .int 0]))] sz) := by
  refine Met.ofW (cc := cX11_may) (maxL := 4) (ret := (some .int)) (by decide) rfl ?_
  intro p e s m args below meth c s₁ B hml hv
  obtain ⟨rfl, hsz, hP, hKK, hD0⟩ := hv
  have hK := hKK.1
  have hx := B.exec
  have hb := B.bytes
  have hr := B.returns
  have hg : ∀ w ∈ gl, w.before _ s = true := fun w h => atoms_spec (ws := wk yX11_may cX11_may 4 (some .int)) B.pre w (List.mem_cons_of_mem _ h)
  have hown : s.vm.findClass RX11 = some m.cls := findClass_of_methodNamed B.named
  have hlocks := B.notSynchronized
  subst hsz
  have hD := hD0.self (sz := s.heap.size)
  generalize hAe : va_A [(h, .inr (11, [.ref h_0, .ref h_1, .ref h_2, .ref h_3, .ref h_4, .ref h_5, .ref h_6, .ref h_7, .ref h_8, .ref h_9, .ref h_10, .ref h_11, .ref h_12, .int h_13, .int h_14])), (h_5, .inr (1, [.ref h_5_0, .ref h_5_1, .ref h_5_2, .ref h_5_3, .ref h_5_4, .ref h_5_5, .ref h_5_6, .ref h_5_7, .ref h_5_8, .ref h_5_9, .ref h_5_10, .ref h_5_11, .ref h_5_12, .int 0]))] s.heap.size = A at hD ⊢
  have hA : ∀ q : Nat, s.heap.size ≤ q → A q := fun q h => by rw [← hAe]; exact Or.inr h
  have hS : va_S A s.heap s.heap [] := va_S.rf
  have hl := lv_entry ([.ref h, .int a1, .int a2, .int a3]) (n := 4) (Nat.le_of_ble_eq_true rfl)
  rw [lg_entry_eq]
  generalize (lg_sl ([.ref h, .int a1, .int a2, .int a3]) ++ List.replicate (4 - (lg_sl ([.ref h, .int a1, .int a2, .int a3])).length) Slot.unset).toArray = ls at hl ⊢
  have hl : lv_has ls 4 [(0, .ref h), (1, .int a1), (2, .int a2), (3, .int a3)] := hl
  refine lv_aload_n hx hb dX11_may_0 rfl (lv_at hl 0 rfl) ?_
  refine lv_iload_n hx hb dX11_may_1 rfl (lv_at hl 1 rfl) ?_
  refine lv_iload_n hx hb dX11_may_2 rfl (lv_at hl 2 rfl) ?_
  refine lv_iload_n hx hb dX11_may_3 rfl (lv_at hl 3 rfl) ?_
  have hPc := hP.sub (ws' := [(h, .inr (11, [.ref h_0, .ref h_1, .ref h_2, .ref h_3, .ref h_4, .ref h_5, .ref h_6, .ref h_7, .ref h_8, .ref h_9, .ref h_10, .ref h_11, .ref h_12, .int h_13, .int h_14])), (h_5, .inr (1, [.ref h_5_0, .ref h_5_1, .ref h_5_2, .ref h_5_3, .ref h_5_4, .ref h_5_5, .ref h_5_6, .ref h_5_7, .ref h_5_8, .ref h_5_9, .ref h_5_10, .ref h_5_11, .ref h_5_12, .int 0]))]) [0, 1] rfl
  refine z_calli (va_runV (As := [.int a1, .int a2, .int a3]) (rest := []) ⟨hx, hb, hml, hown, hg⟩ (c_lookAt0 l D ct h a1 a2 a3 h_0 h_1 h_2 h_3 h_4 h_5 h_6 h_7 h_8 h_9 h_10 h_11 h_12 h_13 h_14 h_5_0 h_5_1 h_5_2 h_5_3 h_5_4 h_5_5 h_5_6 h_5_7 h_5_8 h_5_9 h_5_10 h_5_11 h_5_12 ) (cwV 3 hg (gd_V wd_1103 wd_1105 wd_22 wd_107 wd_1106) rfl rfl rfl (by decide +kernel) ⟨Nat.le_of_ble_eq_true rfl, Nat.le_of_ble_eq_true rfl⟩) (Wr_V hPc hKK (va_recv hK hPc (ci := 11) (q0 := 0) rfl rfl)) rfl rfl hl.1 rfl (lv_room (Nat.le_of_ble_eq_true rfl)) dX11_may_4 ⟨Nat.le_of_ble_eq_true rfl, Nat.le_of_ble_eq_true rfl⟩) (fun r_1 hw_1 => ?_)
  subst hw_1
  refine lv_if_ne (tgt := 12) hx hb dX11_may_7 (by decide) (fun h => absurd (by decide) h) (fun _ => ?_)
  refine lv_iconst (v := (-1)) hx hb dX11_may_10 (by decide) ?_
  exact W.iret (v := (-1)) hx hb hr (fun t ht hW => ⟨⟨(-1), (), rfl, (by simp [sp_may]), trivial⟩, hS.F ht⟩) hS.2.2 dX11_may_11
def sp_wish (a1 : Int32) : Int32 := -2
theorem dX11_wish_0 : decode cX11_wish 0 = .ok (.aload_n 0, 1) := by decide +kernel
theorem dX11_wish_1 : decode cX11_wish 1 = .ok (.getfield 39, 3) := by decide +kernel
theorem dX11_wish_4 : decode cX11_wish 4 = .ok (.iload_n 1, 1) := by decide +kernel
theorem dX11_wish_5 : decode cX11_wish 5 = .ok (.invokevirtual 190, 3) := by decide +kernel
theorem dX11_wish_8 : decode cX11_wish 8 = .ok (.ifCond .ne 10, 3) := by decide +kernel
theorem dX11_wish_11 : decode cX11_wish 11 = .ok (.aload_n 0, 1) := by decide +kernel
theorem dX11_wish_12 : decode cX11_wish 12 = .ok (.bipush (-2), 2) := by decide +kernel
theorem dX11_wish_14 : decode cX11_wish 14 = .ok (.invokevirtual 118, 3) := by decide +kernel
theorem dX11_wish_17 : decode cX11_wish 17 = .ok (.ireturn, 1) := by decide +kernel
set_option maxHeartbeats 4000000 in
set_option maxRecDepth 100000 in
theorem c_wish (l : Launch) (D : va_G) (ct : Nat → ClassId) (h : Nat) (a1 : Int32) (h_0 : Nat) (h_1 : Nat) (h_2 : Nat) (h_3 : Nat) (h_4 : Nat) (h_5 : Nat) (h_6 : Nat) (h_7 : Nat) (h_8 : Nat) (h_9 : Nat) (h_10 : Nat) (h_11 : Nat) (h_12 : Nat) (h_13 : Int32) (h_14 : Int32) (h_5_0 : Nat) (h_5_1 : Nat) (h_5_2 : Nat) (h_5_3 : Nat) (h_5_4 : Nat) (h_5_5 : Nat) (h_5_6 : Nat) (h_5_7 : Nat) (h_5_8 : Nat) (h_5_9 : Nat) (h_5_10 : Nat) (h_5_11 : Nat) (h_5_12 : Nat) (sz : Nat)  : Met l yX11_wish (wk yX11_wish cX11_wish 2 (some .int)) { frames := 1, cells := 0, slots := 0, locals := 21 } (va_Pc [.ref h, .int a1] (Wd D [(h, .inr (11, [.ref h_0, .ref h_1, .ref h_2, .ref h_3, .ref h_4, .ref h_5, .ref h_6, .ref h_7, .ref h_8, .ref h_9, .ref h_10, .ref h_11, .ref h_12, .int h_13, .int h_14])), (h_5, .inr (1, [.ref h_5_0, .ref h_5_1, .ref h_5_2, .ref h_5_3, .ref h_5_4, .ref h_5_5, .ref h_5_6, .ref h_5_7, .ref h_5_8, .ref h_5_9, .ref h_5_10, .ref h_5_11, .ref h_5_12, .int 0]))] ct sz)) (va_Qi (fun (r : Int32) (u : Unit) => r = sp_wish a1) (fun _ _ => True) (va_A [(h, .inr (11, [.ref h_0, .ref h_1, .ref h_2, .ref h_3, .ref h_4, .ref h_5, .ref h_6, .ref h_7, .ref h_8, .ref h_9, .ref h_10, .ref h_11, .ref h_12, .int h_13, .int h_14])), (h_5, .inr (1, [.ref h_5_0, .ref h_5_1, .ref h_5_2, .ref h_5_3, .ref h_5_4, .ref h_5_5, .ref h_5_6, .ref h_5_7, .ref h_5_8, .ref h_5_9, .ref h_5_10, .ref h_5_11, .ref h_5_12, .int 0]))] sz)) 0 0 (va_A [(h, .inr (11, [.ref h_0, .ref h_1, .ref h_2, .ref h_3, .ref h_4, .ref h_5, .ref h_6, .ref h_7, .ref h_8, .ref h_9, .ref h_10, .ref h_11, .ref h_12, .int h_13, .int h_14])), (h_5, .inr (1, [.ref h_5_0, .ref h_5_1, .ref h_5_2, .ref h_5_3, .ref h_5_4, .ref h_5_5, .ref h_5_6, .ref h_5_7, .ref h_5_8, .ref h_5_9, .ref h_5_10, .ref h_5_11, .ref h_5_12, .int 0]))] sz) := by
  refine Met.ofW (cc := cX11_wish) (maxL := 2) (ret := (some .int)) (by decide) rfl ?_
  intro p e s m args below meth c s₁ B hml hv
  obtain ⟨rfl, hsz, hP, hKK, hD0⟩ := hv
  have hK := hKK.1
  have hx := B.exec
  have hb := B.bytes
  have hr := B.returns
  have hg : ∀ w ∈ gl, w.before _ s = true := fun w h => atoms_spec (ws := wk yX11_wish cX11_wish 2 (some .int)) B.pre w (List.mem_cons_of_mem _ h)
  have hown : s.vm.findClass RX11 = some m.cls := findClass_of_methodNamed B.named
  have hlocks := B.notSynchronized
  subst hsz
  have hD := hD0.self (sz := s.heap.size)
  generalize hAe : va_A [(h, .inr (11, [.ref h_0, .ref h_1, .ref h_2, .ref h_3, .ref h_4, .ref h_5, .ref h_6, .ref h_7, .ref h_8, .ref h_9, .ref h_10, .ref h_11, .ref h_12, .int h_13, .int h_14])), (h_5, .inr (1, [.ref h_5_0, .ref h_5_1, .ref h_5_2, .ref h_5_3, .ref h_5_4, .ref h_5_5, .ref h_5_6, .ref h_5_7, .ref h_5_8, .ref h_5_9, .ref h_5_10, .ref h_5_11, .ref h_5_12, .int 0]))] s.heap.size = A at hD ⊢
  have hA : ∀ q : Nat, s.heap.size ≤ q → A q := fun q h => by rw [← hAe]; exact Or.inr h
  have hS : va_S A s.heap s.heap [] := va_S.rf
  have hl := lv_entry ([.ref h, .int a1]) (n := 2) (Nat.le_of_ble_eq_true rfl)
  rw [lg_entry_eq]
  generalize (lg_sl ([.ref h, .int a1]) ++ List.replicate (2 - (lg_sl ([.ref h, .int a1])).length) Slot.unset).toArray = ls at hl ⊢
  have hl : lv_has ls 2 [(0, .ref h), (1, .int a1)] := hl
  refine lv_aload_n hx hb dX11_wish_0 rfl (lv_at hl 0 rfl) ?_
  refine va_get (D := D) (ci := 11) (v := .ref h_5) (C := RX11) (T := TX11) (N := 15) hx hb hg inX11 hown hK hP 0 rfl rfl 5 (by decide) (hg _ wd_688) (fun _ h9 => h9) rfl dX11_wish_1 ?_
  refine lv_iload_n hx hb dX11_wish_4 rfl (lv_at hl 1 rfl) ?_
  have hPc := hP.sub (ws' := [(h_5, .inr (1, [.ref h_5_0, .ref h_5_1, .ref h_5_2, .ref h_5_3, .ref h_5_4, .ref h_5_5, .ref h_5_6, .ref h_5_7, .ref h_5_8, .ref h_5_9, .ref h_5_10, .ref h_5_11, .ref h_5_12, .int 0]))]) [1] rfl
  refine z_calli (va_runV (As := [.int a1]) (rest := []) ⟨hx, hb, hml, hown, hg⟩ (c_holds0 l D ct h_5 a1 h_5_0 h_5_1 h_5_2 h_5_3 h_5_4 h_5_5 h_5_6 h_5_7 h_5_8 h_5_9 h_5_10 h_5_11 h_5_12 ) (cwV 1 hg (gd_V wd_992 wd_993 wd_994 wd_111 wd_995) rfl rfl rfl (by decide +kernel) ⟨Nat.le_of_ble_eq_true rfl, Nat.le_of_ble_eq_true rfl⟩) (Wr_V hPc hKK (va_recv hK hPc (ci := 1) (q0 := 0) rfl rfl)) rfl rfl hl.1 rfl (lv_room (Nat.le_of_ble_eq_true rfl)) dX11_wish_5 ⟨Nat.le_of_ble_eq_true rfl, Nat.le_of_ble_eq_true rfl⟩) (fun r_1 hw_1 => ?_)
  subst hw_1
  refine lv_if_ne (tgt := 18) hx hb dX11_wish_8 (by decide) (fun h => absurd (by decide) h) (fun _ => ?_)
  refine lv_aload_n hx hb dX11_wish_11 rfl (lv_at hl 0 rfl) ?_
  refine lv_bipush (v := (-2)) hx hb dX11_wish_12 (by decide) ?_
  have hPc := hP.sub (ws' := [(h, .inr (11, [.ref h_0, .ref h_1, .ref h_2, .ref h_3, .ref h_4, .ref h_5, .ref h_6, .ref h_7, .ref h_8, .ref h_9, .ref h_10, .ref h_11, .ref h_12, .int h_13, .int h_14]))]) [0] rfl
  have hDc := hD.sub (ws' := [(h, .inr (11, [.ref h_0, .ref h_1, .ref h_2, .ref h_3, .ref h_4, .ref h_5, .ref h_6, .ref h_7, .ref h_8, .ref h_9, .ref h_10, .ref h_11, .ref h_12, .int h_13, .int h_14]))]) [0] (by decide) rfl
  have hFc := va_free (wc := [(h, .inr (11, [.ref h_0, .ref h_1, .ref h_2, .ref h_3, .ref h_4, .ref h_5, .ref h_6, .ref h_7, .ref h_8, .ref h_9, .ref h_10, .ref h_11, .ref h_12, .int h_13, .int h_14]))]) hD hS hA [0] rfl
  refine va_calli (va_runV (As := [.int (-2)]) (rest := []) ⟨hx, hb, hml, hown, hg⟩ (c_refuse l D ct h (-2) h_0 h_1 h_2 h_3 h_4 h_5 h_6 h_7 h_8 h_9 h_10 h_11 h_12 h_13 h_14 s.heap.size ) (cwV 1 hg (gd_V wd_778 wd_780 wd_3 wd_107 wd_781) rfl rfl rfl (by decide +kernel) ⟨Nat.le_of_ble_eq_true rfl, Nat.le_of_ble_eq_true rfl⟩) (Wd_V hPc hKK hDc (va_recv hK hPc (ci := 11) (q0 := 0) rfl rfl)) rfl rfl hl.1 rfl (lv_room (Nat.le_of_ble_eq_true rfl)) dX11_wish_14 ⟨Nat.le_of_ble_eq_true rfl, Nat.le_of_ble_eq_true rfl⟩) hS (fun q _ h => hFc q h) hFc (fun r_3 u_3 t_3 H1 locs ht_3 hvm_3 hw_3 hB_3 hz_3 hk_3 hS => ?_)
  obtain ⟨hP, hD⟩ := va_join (wr := [(h_5, .inr (1, [.ref h_5_0, .ref h_5_1, .ref h_5_2, .ref h_5_3, .ref h_5_4, .ref h_5_5, .ref h_5_6, .ref h_5_7, .ref h_5_8, .ref h_5_9, .ref h_5_10, .ref h_5_11, .ref h_5_12, .int 0]))]) (w1 := []) hP hD [0] [1] rfl rfl (by decide) (by decide) hk_3 hFc (fun k q h => by simp at h) ⟨fun i j p q h => by simp at h, fun k q h => by simp at h⟩
  generalize H1 = H at hP hS ⊢
  have hP : va_P D vwCl [(h_5, .inr (1, [.ref h_5_0, .ref h_5_1, .ref h_5_2, .ref h_5_3, .ref h_5_4, .ref h_5_5, .ref h_5_6, .ref h_5_7, .ref h_5_8, .ref h_5_9, .ref h_5_10, .ref h_5_11, .ref h_5_12, .int 0]))] H := hP
  have hD : va_D A [(h_5, .inr (1, [.ref h_5_0, .ref h_5_1, .ref h_5_2, .ref h_5_3, .ref h_5_4, .ref h_5_5, .ref h_5_6, .ref h_5_7, .ref h_5_8, .ref h_5_9, .ref h_5_10, .ref h_5_11, .ref h_5_12, .int 0]))] := hD
  subst hw_3
  exact W.iret (v := (-2)) hx hb hr (fun t ht hW => ⟨⟨(-2), (), rfl, (by simp [sp_wish]), trivial⟩, hS.F ht⟩) hS.2.2 dX11_wish_17
def sp_clear  : Int32 := 0
theorem dX11_clear_0 : decode cX11_clear 0 = .ok (.aload_n 0, 1) := by decide +kernel
theorem dX11_clear_1 : decode cX11_clear 1 = .ok (.getfield 96, 3) := by decide +kernel
theorem dX11_clear_4 : decode cX11_clear 4 = .ok (.getfield 408, 3) := by decide +kernel
theorem wd_637 : (Cond.fieldLink "VoteRoll" 408 "VoteRoll$Plan" "size" "I") ∈ gl := gl_at 637 (by decide +kernel) (by decide +kernel)
theorem dX11_clear_7 : decode cX11_clear 7 = .ok (.istore_n 1, 1) := by decide +kernel
theorem dX11_clear_8 : decode cX11_clear 8 = .ok (.aload_n 0, 1) := by decide +kernel
theorem dX11_clear_9 : decode cX11_clear 9 = .ok (.getfield 96, 3) := by decide +kernel
theorem dX11_clear_12 : decode cX11_clear 12 = .ok (.iconst 0, 1) := by decide +kernel
theorem dX11_clear_13 : decode cX11_clear 13 = .ok (.putfield 408, 3) := by decide +kernel
theorem dX11_clear_16 : decode cX11_clear 16 = .ok (.iload_n 1, 1) := by decide +kernel
theorem dX11_clear_17 : decode cX11_clear 17 = .ok (.ireturn, 1) := by decide +kernel
set_option maxHeartbeats 4000000 in
set_option maxRecDepth 100000 in
theorem c_clear (l : Launch) (D : va_G) (ct : Nat → ClassId) (h : Nat) (h_0 : Nat) (h_1 : Nat) (h_2 : Nat) (h_3 : Nat) (h_4 : Nat) (h_5 : Nat) (h_6 : Nat) (h_7 : Nat) (h_8 : Nat) (h_9 : Nat) (h_10 : Nat) (h_11 : Nat) (h_12 : Nat) (h_13 : Int32) (h_14 : Int32) (h_12_0 : Nat) (h_12_1 : Nat) (h_12_3 : Nat) (h_12_4 : Nat) (h_12_5 : Int32) (h_12_6 : Int32) (h_12_7 : Nat) (h_12_9 : Int32) (h_12_11 : Nat) (h_12_12 : Nat) (sz : Nat)  : Met l yX11_clear (wk yX11_clear cX11_clear 2 (some .int)) { frames := 0, cells := 0, slots := 0, locals := 0 } (va_Pc [.ref h] (Wd D [(h, .inr (11, [.ref h_0, .ref h_1, .ref h_2, .ref h_3, .ref h_4, .ref h_5, .ref h_6, .ref h_7, .ref h_8, .ref h_9, .ref h_10, .ref h_11, .ref h_12, .int h_13, .int h_14])), (h_12, .inr (9, [.ref h_12_0, .ref h_12_1, .int 0, .ref h_12_3, .ref h_12_4, .int h_12_5, .int h_12_6, .ref h_12_7, .int 0, .int h_12_9, .int (-1), .ref h_12_11, .ref h_12_12]))] ct sz)) (va_Qi (fun (r : Int32) (u : Unit) => r = sp_clear) (fun _ _ => True) (va_A [(h, .inr (11, [.ref h_0, .ref h_1, .ref h_2, .ref h_3, .ref h_4, .ref h_5, .ref h_6, .ref h_7, .ref h_8, .ref h_9, .ref h_10, .ref h_11, .ref h_12, .int h_13, .int h_14])), (h_12, .inr (9, [.ref h_12_0, .ref h_12_1, .int 0, .ref h_12_3, .ref h_12_4, .int h_12_5, .int h_12_6, .ref h_12_7, .int 0, .int h_12_9, .int (-1), .ref h_12_11, .ref h_12_12]))] sz)) 0 0 (va_A [(h, .inr (11, [.ref h_0, .ref h_1, .ref h_2, .ref h_3, .ref h_4, .ref h_5, .ref h_6, .ref h_7, .ref h_8, .ref h_9, .ref h_10, .ref h_11, .ref h_12, .int h_13, .int h_14])), (h_12, .inr (9, [.ref h_12_0, .ref h_12_1, .int 0, .ref h_12_3, .ref h_12_4, .int h_12_5, .int h_12_6, .ref h_12_7, .int 0, .int h_12_9, .int (-1), .ref h_12_11, .ref h_12_12]))] sz) := by
  refine Met.ofW (cc := cX11_clear) (maxL := 2) (ret := (some .int)) (by decide) rfl ?_
  intro p e s m args below meth c s₁ B hml hv
  obtain ⟨rfl, hsz, hP, hKK, hD0⟩ := hv
  have hK := hKK.1
  have hx := B.exec
  have hb := B.bytes
  have hr := B.returns
  have hg : ∀ w ∈ gl, w.before _ s = true := fun w h => atoms_spec (ws := wk yX11_clear cX11_clear 2 (some .int)) B.pre w (List.mem_cons_of_mem _ h)
  have hown : s.vm.findClass RX11 = some m.cls := findClass_of_methodNamed B.named
  have hlocks := B.notSynchronized
  subst hsz
  have hD := hD0.self (sz := s.heap.size)
  generalize hAe : va_A [(h, .inr (11, [.ref h_0, .ref h_1, .ref h_2, .ref h_3, .ref h_4, .ref h_5, .ref h_6, .ref h_7, .ref h_8, .ref h_9, .ref h_10, .ref h_11, .ref h_12, .int h_13, .int h_14])), (h_12, .inr (9, [.ref h_12_0, .ref h_12_1, .int 0, .ref h_12_3, .ref h_12_4, .int h_12_5, .int h_12_6, .ref h_12_7, .int 0, .int h_12_9, .int (-1), .ref h_12_11, .ref h_12_12]))] s.heap.size = A at hD ⊢
  have hA : ∀ q : Nat, s.heap.size ≤ q → A q := fun q h => by rw [← hAe]; exact Or.inr h
  have hS : va_S A s.heap s.heap [] := va_S.rf
  have hl := lv_entry ([.ref h]) (n := 2) (Nat.le_of_ble_eq_true rfl)
  rw [lg_entry_eq]
  generalize (lg_sl ([.ref h]) ++ List.replicate (2 - (lg_sl ([.ref h])).length) Slot.unset).toArray = ls at hl ⊢
  have hl : lv_has ls 2 [(0, .ref h)] := hl
  refine lv_aload_n hx hb dX11_clear_0 rfl (lv_at hl 0 rfl) ?_
  refine va_get (D := D) (ci := 11) (v := .ref h_12) (C := RX11) (T := TX11) (N := 15) hx hb hg inX11 hown hK hP 0 rfl rfl 12 (by decide) (hg _ wd_695) (fun _ h9 => h9) rfl dX11_clear_1 ?_
  refine va_get (D := D) (ci := 9) (v := .int 0) (C := RX9) (T := TX9) (N := 13) hx hb hg inX9 hown hK hP 1 rfl rfl 2 (by decide) (hg _ wd_637) (fun _ h9 => h9) rfl dX11_clear_4 ?_
  refine lv_istore_n (lv' := [(1, .int 0), (0, .ref h)]) hx hb dX11_clear_7 rfl hl (by decide) rfl (fun ls hl => ?_)
  refine lv_aload_n hx hb dX11_clear_8 rfl (lv_at hl 1 rfl) ?_
  refine va_get (D := D) (ci := 11) (v := .ref h_12) (C := RX11) (T := TX11) (N := 15) hx hb hg inX11 hown hK hP 0 rfl rfl 12 (by decide) (hg _ wd_695) (fun _ h9 => h9) rfl dX11_clear_9 ?_
  refine lv_iconst (v := 0) hx hb dX11_clear_12 (by decide) ?_
  refine va_put (D := D) (ci := 9) (v := .int 0) (ty := .int) (C := RX9) (T := TX9) (N := 13) hx hb hg inX9 tyX9 tyX9_ok nmX9 hown hK hP hD hS 1 rfl rfl 2 (by decide) (hg _ wd_637) (fun _ h9 => h9) rfl (by decide +kernel) rfl rfl (Nat.le_of_ble_eq_true rfl) dX11_clear_13 (fun H locs hP hD hS => ?_)
  have hP : va_P D vwCl [(h, .inr (11, [.ref h_0, .ref h_1, .ref h_2, .ref h_3, .ref h_4, .ref h_5, .ref h_6, .ref h_7, .ref h_8, .ref h_9, .ref h_10, .ref h_11, .ref h_12, .int h_13, .int h_14])), (h_12, .inr (9, [.ref h_12_0, .ref h_12_1, .int 0, .ref h_12_3, .ref h_12_4, .int h_12_5, .int h_12_6, .ref h_12_7, .int 0, .int h_12_9, .int (-1), .ref h_12_11, .ref h_12_12]))] H := hP
  have hD : va_D A [(h, .inr (11, [.ref h_0, .ref h_1, .ref h_2, .ref h_3, .ref h_4, .ref h_5, .ref h_6, .ref h_7, .ref h_8, .ref h_9, .ref h_10, .ref h_11, .ref h_12, .int h_13, .int h_14])), (h_12, .inr (9, [.ref h_12_0, .ref h_12_1, .int 0, .ref h_12_3, .ref h_12_4, .int h_12_5, .int h_12_6, .ref h_12_7, .int 0, .int h_12_9, .int (-1), .ref h_12_11, .ref h_12_12]))] := hD
  refine lv_iload_n hx hb dX11_clear_16 rfl (lv_at hl 0 rfl) ?_
  exact W.iret (v := 0) hx hb hr (fun t ht hW => ⟨⟨0, (), rfl, (by simp [sp_clear]), trivial⟩, hS.F ht⟩) hS.2.2 dX11_clear_17
def sp_status  : Int32 := 0
theorem dX11_status_0 : decode cX11_status 0 = .ok (.aload_n 0, 1) := by decide +kernel
theorem dX11_status_1 : decode cX11_status 1 = .ok (.getfield 104, 3) := by decide +kernel
theorem dX11_status_4 : decode cX11_status 4 = .ok (.ireturn, 1) := by decide +kernel
set_option maxHeartbeats 4000000 in
set_option maxRecDepth 100000 in
theorem c_status (l : Launch) (D : va_G) (ct : Nat → ClassId) (h : Nat) (h_0 : Nat) (h_1 : Nat) (h_2 : Nat) (h_3 : Nat) (h_4 : Nat) (h_5 : Nat) (h_6 : Nat) (h_7 : Nat) (h_8 : Nat) (h_9 : Nat) (h_10 : Nat) (h_11 : Nat) (h_12 : Nat) (h_13 : Int32) (sz : Nat)  : Met l yX11_status (wk yX11_status cX11_status 1 (some .int)) { frames := 0, cells := 0, slots := 0, locals := 0 } (va_Pc [.ref h] (Wd D [(h, .inr (11, [.ref h_0, .ref h_1, .ref h_2, .ref h_3, .ref h_4, .ref h_5, .ref h_6, .ref h_7, .ref h_8, .ref h_9, .ref h_10, .ref h_11, .ref h_12, .int h_13, .int 0]))] ct sz)) (va_Qi (fun (r : Int32) (u : Unit) => r = sp_status) (fun _ _ => True) (va_A [(h, .inr (11, [.ref h_0, .ref h_1, .ref h_2, .ref h_3, .ref h_4, .ref h_5, .ref h_6, .ref h_7, .ref h_8, .ref h_9, .ref h_10, .ref h_11, .ref h_12, .int h_13, .int 0]))] sz)) 0 0 (va_A [(h, .inr (11, [.ref h_0, .ref h_1, .ref h_2, .ref h_3, .ref h_4, .ref h_5, .ref h_6, .ref h_7, .ref h_8, .ref h_9, .ref h_10, .ref h_11, .ref h_12, .int h_13, .int 0]))] sz) := by
  refine Met.ofW (cc := cX11_status) (maxL := 1) (ret := (some .int)) (by decide) rfl ?_
  intro p e s m args below meth c s₁ B hml hv
  obtain ⟨rfl, hsz, hP, hKK, hD0⟩ := hv
  have hK := hKK.1
  have hx := B.exec
  have hb := B.bytes
  have hr := B.returns
  have hg : ∀ w ∈ gl, w.before _ s = true := fun w h => atoms_spec (ws := wk yX11_status cX11_status 1 (some .int)) B.pre w (List.mem_cons_of_mem _ h)
  have hown : s.vm.findClass RX11 = some m.cls := findClass_of_methodNamed B.named
  have hlocks := B.notSynchronized
  subst hsz
  have hD := hD0.self (sz := s.heap.size)
  generalize hAe : va_A [(h, .inr (11, [.ref h_0, .ref h_1, .ref h_2, .ref h_3, .ref h_4, .ref h_5, .ref h_6, .ref h_7, .ref h_8, .ref h_9, .ref h_10, .ref h_11, .ref h_12, .int h_13, .int 0]))] s.heap.size = A at hD ⊢
  have hA : ∀ q : Nat, s.heap.size ≤ q → A q := fun q h => by rw [← hAe]; exact Or.inr h
  have hS : va_S A s.heap s.heap [] := va_S.rf
  have hl := lv_entry ([.ref h]) (n := 1) (Nat.le_of_ble_eq_true rfl)
  rw [lg_entry_eq]
  generalize (lg_sl ([.ref h]) ++ List.replicate (1 - (lg_sl ([.ref h])).length) Slot.unset).toArray = ls at hl ⊢
  have hl : lv_has ls 1 [(0, .ref h)] := hl
  refine lv_aload_n hx hb dX11_status_0 rfl (lv_at hl 0 rfl) ?_
  refine va_get (D := D) (ci := 11) (v := .int 0) (C := RX11) (T := TX11) (N := 15) hx hb hg inX11 hown hK hP 0 rfl rfl 14 (by decide) (hg _ wd_697) (fun _ h9 => h9) rfl dX11_status_1 ?_
  exact W.iret (v := 0) hx hb hr (fun t ht hW => ⟨⟨0, (), rfl, (by simp [sp_status]), trivial⟩, hS.F ht⟩) hS.2.2 dX11_status_4
def sp_planned (a1 : Int32) : Int32 := -1
theorem dX11_planned_0 : decode cX11_planned 0 = .ok (.iload_n 1, 1) := by decide +kernel
theorem dX11_planned_1 : decode cX11_planned 1 = .ok (.iconst (-1), 1) := by decide +kernel
theorem dX11_planned_2 : decode cX11_planned 2 = .ok (.if_icmp .ne 11, 3) := by decide +kernel
theorem dX11_planned_13 : decode cX11_planned 13 = .ok (.iload_n 1, 1) := by decide +kernel
theorem dX11_planned_14 : decode cX11_planned 14 = .ok (.iconst 0, 1) := by decide +kernel
theorem dX11_planned_15 : decode cX11_planned 15 = .ok (.aload_n 0, 1) := by decide +kernel
theorem dX11_planned_16 : decode cX11_planned 16 = .ok (.getfield 96, 3) := by decide +kernel
theorem dX11_planned_19 : decode cX11_planned 19 = .ok (.getfield 427, 3) := by decide +kernel
theorem wd_649 : (Cond.fieldLink "VoteRoll" 427 "VoteRoll$Plan" "plannedSize" "I") ∈ gl := gl_at 649 (by decide +kernel) (by decide +kernel)
theorem dX11_planned_22 : decode cX11_planned 22 = .ok (.iconst 1, 1) := by decide +kernel
theorem dX11_planned_23 : decode cX11_planned 23 = .ok (.isub, 1) := by decide +kernel
theorem dX11_planned_24 : decode cX11_planned 24 = .ok (.invokestatic 150, 3) := by decide +kernel
theorem dX11_planned_27 : decode cX11_planned 27 = .ok (.ifCond .eq 15, 3) := by decide +kernel
theorem dX11_planned_42 : decode cX11_planned 42 = .ok (.iconst (-1), 1) := by decide +kernel
theorem dX11_planned_43 : decode cX11_planned 43 = .ok (.ireturn, 1) := by decide +kernel
theorem dX11_planned_5 : decode cX11_planned 5 = .ok (.aload_n 0, 1) := by decide +kernel
theorem dX11_planned_6 : decode cX11_planned 6 = .ok (.getfield 96, 3) := by decide +kernel
theorem dX11_planned_9 : decode cX11_planned 9 = .ok (.getfield 424, 3) := by decide +kernel
theorem wd_653 : (Cond.fieldLink "VoteRoll" 424 "VoteRoll$Plan" "bestCost" "I") ∈ gl := gl_at 653 (by decide +kernel) (by decide +kernel)
theorem dX11_planned_12 : decode cX11_planned 12 = .ok (.ireturn, 1) := by decide +kernel
set_option maxHeartbeats 4000000 in
set_option maxRecDepth 100000 in
theorem c_planned (l : Launch) (D : va_G) (ct : Nat → ClassId) (h : Nat) (a1 : Int32) (h_0 : Nat) (h_1 : Nat) (h_2 : Nat) (h_3 : Nat) (h_4 : Nat) (h_5 : Nat) (h_6 : Nat) (h_7 : Nat) (h_8 : Nat) (h_9 : Nat) (h_10 : Nat) (h_11 : Nat) (h_12 : Nat) (h_13 : Int32) (h_14 : Int32) (h_12_0 : Nat) (h_12_1 : Nat) (h_12_3 : Nat) (h_12_4 : Nat) (h_12_5 : Int32) (h_12_6 : Int32) (h_12_7 : Nat) (h_12_9 : Int32) (h_12_11 : Nat) (h_12_12 : Nat) (sz : Nat)  : Met l yX11_planned (wk yX11_planned cX11_planned 2 (some .int)) { frames := 1, cells := 0, slots := 0, locals := 22 } (va_Pc [.ref h, .int a1] (Wd D [(h, .inr (11, [.ref h_0, .ref h_1, .ref h_2, .ref h_3, .ref h_4, .ref h_5, .ref h_6, .ref h_7, .ref h_8, .ref h_9, .ref h_10, .ref h_11, .ref h_12, .int h_13, .int h_14])), (h_12, .inr (9, [.ref h_12_0, .ref h_12_1, .int 0, .ref h_12_3, .ref h_12_4, .int h_12_5, .int h_12_6, .ref h_12_7, .int 0, .int h_12_9, .int (-1), .ref h_12_11, .ref h_12_12]))] ct sz)) (va_Qi (fun (r : Int32) (u : Unit) => r = sp_planned a1) (fun _ _ => True) (va_A [(h, .inr (11, [.ref h_0, .ref h_1, .ref h_2, .ref h_3, .ref h_4, .ref h_5, .ref h_6, .ref h_7, .ref h_8, .ref h_9, .ref h_10, .ref h_11, .ref h_12, .int h_13, .int h_14])), (h_12, .inr (9, [.ref h_12_0, .ref h_12_1, .int 0, .ref h_12_3, .ref h_12_4, .int h_12_5, .int h_12_6, .ref h_12_7, .int 0, .int h_12_9, .int (-1), .ref h_12_11, .ref h_12_12]))] sz)) 0 0 (va_A [(h, .inr (11, [.ref h_0, .ref h_1, .ref h_2, .ref h_3, .ref h_4, .ref h_5, .ref h_6, .ref h_7, .ref h_8, .ref h_9, .ref h_10, .ref h_11, .ref h_12, .int h_13, .int h_14])), (h_12, .inr (9, [.ref h_12_0, .ref h_12_1, .int 0, .ref h_12_3, .ref h_12_4, .int h_12_5, .int h_12_6, .ref h_12_7, .int 0, .int h_12_9, .int (-1), .ref h_12_11, .ref h_12_12]))] sz) := by
  refine Met.ofW (cc := cX11_planned) (maxL := 2) (ret := (some .int)) (by decide) rfl ?_
  intro p e s m args below meth c s₁ B hml hv
  obtain ⟨rfl, hsz, hP, hKK, hD0⟩ := hv
  have hK := hKK.1
  have hx := B.exec
  have hb := B.bytes
  have hr := B.returns
  have hg : ∀ w ∈ gl, w.before _ s = true := fun w h => atoms_spec (ws := wk yX11_planned cX11_planned 2 (some .int)) B.pre w (List.mem_cons_of_mem _ h)
  have hown : s.vm.findClass RX11 = some m.cls := findClass_of_methodNamed B.named
  have hlocks := B.notSynchronized
  subst hsz
  have hD := hD0.self (sz := s.heap.size)
  generalize hAe : va_A [(h, .inr (11, [.ref h_0, .ref h_1, .ref h_2, .ref h_3, .ref h_4, .ref h_5, .ref h_6, .ref h_7, .ref h_8, .ref h_9, .ref h_10, .ref h_11, .ref h_12, .int h_13, .int h_14])), (h_12, .inr (9, [.ref h_12_0, .ref h_12_1, .int 0, .ref h_12_3, .ref h_12_4, .int h_12_5, .int h_12_6, .ref h_12_7, .int 0, .int h_12_9, .int (-1), .ref h_12_11, .ref h_12_12]))] s.heap.size = A at hD ⊢
  have hA : ∀ q : Nat, s.heap.size ≤ q → A q := fun q h => by rw [← hAe]; exact Or.inr h
  have hS : va_S A s.heap s.heap [] := va_S.rf
  have hl := lv_entry ([.ref h, .int a1]) (n := 2) (Nat.le_of_ble_eq_true rfl)
  rw [lg_entry_eq]
  generalize (lg_sl ([.ref h, .int a1]) ++ List.replicate (2 - (lg_sl ([.ref h, .int a1])).length) Slot.unset).toArray = ls at hl ⊢
  have hl : lv_has ls 2 [(0, .ref h), (1, .int a1)] := hl
  refine lv_iload_n hx hb dX11_planned_0 rfl (lv_at hl 1 rfl) ?_
  refine lv_iconst (v := (-1)) hx hb dX11_planned_1 (by decide) ?_
  refine lv_icmp_ne (tgt := 13) hx hb dX11_planned_2 (by decide) (fun c_1 => ?_) (fun c_1 => ?_)
  · refine lv_iload_n hx hb dX11_planned_13 rfl (lv_at hl 1 rfl) ?_
    refine lv_iconst (v := 0) hx hb dX11_planned_14 (by decide) ?_
    refine lv_aload_n hx hb dX11_planned_15 rfl (lv_at hl 0 rfl) ?_
    refine va_get (D := D) (ci := 11) (v := .ref h_12) (C := RX11) (T := TX11) (N := 15) hx hb hg inX11 hown hK hP 0 rfl rfl 12 (by decide) (hg _ wd_695) (fun _ h9 => h9) rfl dX11_planned_16 ?_
    refine va_get (D := D) (ci := 9) (v := .int 0) (C := RX9) (T := TX9) (N := 13) hx hb hg inX9 hown hK hP 1 rfl rfl 8 (by decide) (hg _ wd_649) (fun _ h9 => h9) rfl dX11_planned_19 ?_
    refine lv_iconst (v := 1) hx hb dX11_planned_22 (by decide) ?_
    refine lv_isub hx hb dX11_planned_23 ?_
    rw [show ((0 - 1 : Int32) = (-1)) by decide]
    have hPc := hP.sub (ws' := []) [] rfl
    refine z_calli (va_runS (As := [.int a1, .int 0, .int (-1)]) (rest := []) ⟨hx, hb, hml, hown, hg⟩ (c_within l D ct a1 0 (-1) ) (va_cwS 3 hg (gd_S wd_959 wd_917 wd_107 wd_918) rfl rfl rfl (by decide +kernel) ⟨Nat.le_of_ble_eq_true rfl, Nat.le_of_ble_eq_true rfl⟩) (Wr_S hPc hKK) rfl rfl hl.1 rfl (lv_room (Nat.le_of_ble_eq_true rfl)) dX11_planned_24 ⟨Nat.le_of_ble_eq_true rfl, Nat.le_of_ble_eq_true rfl⟩) (fun r_2 hw_2 => ?_)
    subst hw_2
    rw [bw_em]
    refine lv_if_eq (tgt := 42) hx hb dX11_planned_27 (by decide) (fun _ => ?_) (fun h => absurd (by decide) h)
    refine lv_iconst (v := (-1)) hx hb dX11_planned_42 (by decide) ?_
    exact W.iret (v := (-1)) hx hb hr (fun t ht hW => ⟨⟨(-1), (), rfl, (by simp [sp_planned]), trivial⟩, hS.F ht⟩) hS.2.2 dX11_planned_43
  · refine lv_aload_n hx hb dX11_planned_5 rfl (lv_at hl 0 rfl) ?_
    refine va_get (D := D) (ci := 11) (v := .ref h_12) (C := RX11) (T := TX11) (N := 15) hx hb hg inX11 hown hK hP 0 rfl rfl 12 (by decide) (hg _ wd_695) (fun _ h9 => h9) rfl dX11_planned_6 ?_
    refine va_get (D := D) (ci := 9) (v := .int (-1)) (C := RX9) (T := TX9) (N := 13) hx hb hg inX9 hown hK hP 1 rfl rfl 10 (by decide) (hg _ wd_653) (fun _ h9 => h9) rfl dX11_planned_9 ?_
    exact W.iret (v := (-1)) hx hb hr (fun t ht hW => ⟨⟨(-1), (), rfl, (by simp [sp_planned]), trivial⟩, hS.F ht⟩) hS.2.2 dX11_planned_12
def sp_count (a1 : Int32) : Int32 := if a1 = 0 then 0 else if a1 = 1 then 0 else if a1 = 2 then 0 else if a1 = 3 then 0 else if a1 = 4 then 0 else if a1 = 5 then 0 else if a1 = 6 then 0 else if a1 = 7 then 0 else (-1)
theorem dX11_count_0 : decode cX11_count 0 = .ok (.iload_n 1, 1) := by decide +kernel
theorem dX11_count_1 : decode cX11_count 1 = .ok (.tableswitch 111 0 7 #[47, 55, 63, 71, 79, 87, 95, 103], 47) := by decide +kernel
theorem dX11_count_48 : decode cX11_count 48 = .ok (.aload_n 0, 1) := by decide +kernel
theorem dX11_count_49 : decode cX11_count 49 = .ok (.getfield 39, 3) := by decide +kernel
theorem dX11_count_52 : decode cX11_count 52 = .ok (.getfield 126, 3) := by decide +kernel
theorem wd_282 : (Cond.fieldLink "VoteRoll" 126 "VoteRoll$Book" "size" "I") ∈ gl := gl_at 282 (by decide +kernel) (by decide +kernel)
theorem dX11_count_55 : decode cX11_count 55 = .ok (.ireturn, 1) := by decide +kernel
theorem dX11_count_56 : decode cX11_count 56 = .ok (.aload_n 0, 1) := by decide +kernel
theorem dX11_count_57 : decode cX11_count 57 = .ok (.getfield 19, 3) := by decide +kernel
theorem wd_684 : (Cond.fieldLink "VoteRoll" 19 "VoteRoll" "liveFolds" "LVoteRoll$Folds;") ∈ gl := gl_at 684 (by decide +kernel) (by decide +kernel)
theorem dX11_count_60 : decode cX11_count 60 = .ok (.getfield 137, 3) := by decide +kernel
theorem wd_180 : (Cond.fieldLink "VoteRoll" 137 "VoteRoll$Folds" "pairs" "I") ∈ gl := gl_at 180 (by decide +kernel) (by decide +kernel)
theorem dX11_count_63 : decode cX11_count 63 = .ok (.ireturn, 1) := by decide +kernel
theorem dX11_count_64 : decode cX11_count 64 = .ok (.aload_n 0, 1) := by decide +kernel
theorem dX11_count_65 : decode cX11_count 65 = .ok (.getfield 29, 3) := by decide +kernel
theorem wd_686 : (Cond.fieldLink "VoteRoll" 29 "VoteRoll" "liveLaw" "LVoteRoll$Law;") ∈ gl := gl_at 686 (by decide +kernel) (by decide +kernel)
theorem dX11_count_68 : decode cX11_count 68 = .ok (.getfield 147, 3) := by decide +kernel
theorem wd_216 : (Cond.fieldLink "VoteRoll" 147 "VoteRoll$Law" "clauses" "I") ∈ gl := gl_at 216 (by decide +kernel) (by decide +kernel)
theorem dX11_count_71 : decode cX11_count 71 = .ok (.ireturn, 1) := by decide +kernel
theorem dX11_count_72 : decode cX11_count 72 = .ok (.aload_n 0, 1) := by decide +kernel
theorem dX11_count_73 : decode cX11_count 73 = .ok (.getfield 29, 3) := by decide +kernel
theorem dX11_count_76 : decode cX11_count 76 = .ok (.getfield 433, 3) := by decide +kernel
theorem wd_218 : (Cond.fieldLink "VoteRoll" 433 "VoteRoll$Law" "causeFacts" "I") ∈ gl := gl_at 218 (by decide +kernel) (by decide +kernel)
theorem dX11_count_79 : decode cX11_count 79 = .ok (.ireturn, 1) := by decide +kernel
theorem dX11_count_80 : decode cX11_count 80 = .ok (.aload_n 0, 1) := by decide +kernel
theorem dX11_count_81 : decode cX11_count 81 = .ok (.getfield 46, 3) := by decide +kernel
theorem wd_689 : (Cond.fieldLink "VoteRoll" 46 "VoteRoll" "acts" "LVoteRoll$Acts;") ∈ gl := gl_at 689 (by decide +kernel) (by decide +kernel)
theorem dX11_count_84 : decode cX11_count 84 = .ok (.getfield 311, 3) := by decide +kernel
theorem wd_340 : (Cond.fieldLink "VoteRoll" 311 "VoteRoll$Acts" "size" "I") ∈ gl := gl_at 340 (by decide +kernel) (by decide +kernel)
theorem dX11_count_87 : decode cX11_count 87 = .ok (.ireturn, 1) := by decide +kernel
theorem dX11_count_88 : decode cX11_count 88 = .ok (.aload_n 0, 1) := by decide +kernel
theorem dX11_count_89 : decode cX11_count 89 = .ok (.getfield 46, 3) := by decide +kernel
theorem dX11_count_92 : decode cX11_count 92 = .ok (.getfield 320, 3) := by decide +kernel
theorem wd_342 : (Cond.fieldLink "VoteRoll" 320 "VoteRoll$Acts" "voteCount" "I") ∈ gl := gl_at 342 (by decide +kernel) (by decide +kernel)
theorem dX11_count_95 : decode cX11_count 95 = .ok (.ireturn, 1) := by decide +kernel
theorem dX11_count_96 : decode cX11_count 96 = .ok (.aload_n 0, 1) := by decide +kernel
theorem dX11_count_97 : decode cX11_count 97 = .ok (.getfield 96, 3) := by decide +kernel
theorem dX11_count_100 : decode cX11_count 100 = .ok (.getfield 408, 3) := by decide +kernel
theorem dX11_count_103 : decode cX11_count 103 = .ok (.ireturn, 1) := by decide +kernel
theorem dX11_count_104 : decode cX11_count 104 = .ok (.aload_n 0, 1) := by decide +kernel
theorem dX11_count_105 : decode cX11_count 105 = .ok (.getfield 12, 3) := by decide +kernel
theorem dX11_count_108 : decode cX11_count 108 = .ok (.getfield 107, 3) := by decide +kernel
theorem dX11_count_111 : decode cX11_count 111 = .ok (.ireturn, 1) := by decide +kernel
theorem dX11_count_112 : decode cX11_count 112 = .ok (.iconst (-1), 1) := by decide +kernel
theorem dX11_count_113 : decode cX11_count 113 = .ok (.ireturn, 1) := by decide +kernel
set_option maxHeartbeats 4000000 in
set_option maxRecDepth 100000 in
theorem c_count (l : Launch) (D : va_G) (ct : Nat → ClassId) (h : Nat) (a1 : Int32) (h_0 : Nat) (h_1 : Nat) (h_2 : Nat) (h_3 : Nat) (h_4 : Nat) (h_5 : Nat) (h_6 : Nat) (h_7 : Nat) (h_8 : Nat) (h_9 : Nat) (h_10 : Nat) (h_11 : Nat) (h_12 : Nat) (h_13 : Int32) (h_14 : Int32) (h_5_0 : Nat) (h_5_1 : Nat) (h_5_2 : Nat) (h_5_3 : Nat) (h_5_4 : Nat) (h_5_5 : Nat) (h_5_6 : Nat) (h_5_7 : Nat) (h_5_8 : Nat) (h_5_9 : Nat) (h_5_10 : Nat) (h_5_11 : Nat) (h_5_12 : Nat) (h_1_0 : Nat) (h_1_1 : Nat) (h_1_2 : Nat) (h_1_3 : Nat) (h_3_0 : Nat) (h_3_1 : Nat) (h_3_5 : Int32) (h_6_0 : Nat) (h_6_1 : Nat) (h_6_2 : Nat) (h_6_3 : Nat) (h_6_4 : Nat) (h_6_5 : Nat) (h_12_0 : Nat) (h_12_1 : Nat) (h_12_3 : Nat) (h_12_4 : Nat) (h_12_5 : Int32) (h_12_6 : Int32) (h_12_7 : Nat) (h_12_9 : Int32) (h_12_11 : Nat) (h_12_12 : Nat) (h_0_0 : Nat) (h_0_2 : Int32) (h_0_3 : Int32) (h_0_4 : Int32) (sz : Nat)  : Met l yX11_count (wk yX11_count cX11_count 2 (some .int)) { frames := 0, cells := 0, slots := 0, locals := 0 } (va_Pc [.ref h, .int a1] (Wd D [(h, .inr (11, [.ref h_0, .ref h_1, .ref h_2, .ref h_3, .ref h_4, .ref h_5, .ref h_6, .ref h_7, .ref h_8, .ref h_9, .ref h_10, .ref h_11, .ref h_12, .int h_13, .int h_14])), (h_5, .inr (1, [.ref h_5_0, .ref h_5_1, .ref h_5_2, .ref h_5_3, .ref h_5_4, .ref h_5_5, .ref h_5_6, .ref h_5_7, .ref h_5_8, .ref h_5_9, .ref h_5_10, .ref h_5_11, .ref h_5_12, .int 0])), (h_1, .inr (4, [.ref h_1_0, .ref h_1_1, .ref h_1_2, .ref h_1_3, .int 0])), (h_3, .inr (5, [.ref h_3_0, .ref h_3_1, .int 0, .int 0, .int 0, .int h_3_5])), (h_6, .inr (0, [.ref h_6_0, .ref h_6_1, .ref h_6_2, .ref h_6_3, .ref h_6_4, .ref h_6_5, .int 0, .int 0])), (h_12, .inr (9, [.ref h_12_0, .ref h_12_1, .int 0, .ref h_12_3, .ref h_12_4, .int h_12_5, .int h_12_6, .ref h_12_7, .int 0, .int h_12_9, .int (-1), .ref h_12_11, .ref h_12_12])), (h_0, .inr (10, [.ref h_0_0, .int 0, .int h_0_2, .int h_0_3, .int h_0_4]))] ct sz)) (va_Qi (fun (r : Int32) (u : Unit) => r = sp_count a1) (fun _ _ => True) (va_A [(h, .inr (11, [.ref h_0, .ref h_1, .ref h_2, .ref h_3, .ref h_4, .ref h_5, .ref h_6, .ref h_7, .ref h_8, .ref h_9, .ref h_10, .ref h_11, .ref h_12, .int h_13, .int h_14])), (h_5, .inr (1, [.ref h_5_0, .ref h_5_1, .ref h_5_2, .ref h_5_3, .ref h_5_4, .ref h_5_5, .ref h_5_6, .ref h_5_7, .ref h_5_8, .ref h_5_9, .ref h_5_10, .ref h_5_11, .ref h_5_12, .int 0])), (h_1, .inr (4, [.ref h_1_0, .ref h_1_1, .ref h_1_2, .ref h_1_3, .int 0])), (h_3, .inr (5, [.ref h_3_0, .ref h_3_1, .int 0, .int 0, .int 0, .int h_3_5])), (h_6, .inr (0, [.ref h_6_0, .ref h_6_1, .ref h_6_2, .ref h_6_3, .ref h_6_4, .ref h_6_5, .int 0, .int 0])), (h_12, .inr (9, [.ref h_12_0, .ref h_12_1, .int 0, .ref h_12_3, .ref h_12_4, .int h_12_5, .int h_12_6, .ref h_12_7, .int 0, .int h_12_9, .int (-1), .ref h_12_11, .ref h_12_12])), (h_0, .inr (10, [.ref h_0_0, .int 0, .int h_0_2, .int h_0_3, .int h_0_4]))] sz)) 0 0 (va_A [(h, .inr (11, [.ref h_0, .ref h_1, .ref h_2, .ref h_3, .ref h_4, .ref h_5, .ref h_6, .ref h_7, .ref h_8, .ref h_9, .ref h_10, .ref h_11, .ref h_12, .int h_13, .int h_14])), (h_5, .inr (1, [.ref h_5_0, .ref h_5_1, .ref h_5_2, .ref h_5_3, .ref h_5_4, .ref h_5_5, .ref h_5_6, .ref h_5_7, .ref h_5_8, .ref h_5_9, .ref h_5_10, .ref h_5_11, .ref h_5_12, .int 0])), (h_1, .inr (4, [.ref h_1_0, .ref h_1_1, .ref h_1_2, .ref h_1_3, .int 0])), (h_3, .inr (5, [.ref h_3_0, .ref h_3_1, .int 0, .int 0, .int 0, .int h_3_5])), (h_6, .inr (0, [.ref h_6_0, .ref h_6_1, .ref h_6_2, .ref h_6_3, .ref h_6_4, .ref h_6_5, .int 0, .int 0])), (h_12, .inr (9, [.ref h_12_0, .ref h_12_1, .int 0, .ref h_12_3, .ref h_12_4, .int h_12_5, .int h_12_6, .ref h_12_7, .int 0, .int h_12_9, .int (-1), .ref h_12_11, .ref h_12_12])), (h_0, .inr (10, [.ref h_0_0, .int 0, .int h_0_2, .int h_0_3, .int h_0_4]))] sz) := by
  refine Met.ofW (cc := cX11_count) (maxL := 2) (ret := (some .int)) (by decide) rfl ?_
  intro p e s m args below meth c s₁ B hml hv
  obtain ⟨rfl, hsz, hP, hKK, hD0⟩ := hv
  have hK := hKK.1
  have hx := B.exec
  have hb := B.bytes
  have hr := B.returns
  have hg : ∀ w ∈ gl, w.before _ s = true := fun w h => atoms_spec (ws := wk yX11_count cX11_count 2 (some .int)) B.pre w (List.mem_cons_of_mem _ h)
  have hown : s.vm.findClass RX11 = some m.cls := findClass_of_methodNamed B.named
  have hlocks := B.notSynchronized
  subst hsz
  have hD := hD0.self (sz := s.heap.size)
  generalize hAe : va_A [(h, .inr (11, [.ref h_0, .ref h_1, .ref h_2, .ref h_3, .ref h_4, .ref h_5, .ref h_6, .ref h_7, .ref h_8, .ref h_9, .ref h_10, .ref h_11, .ref h_12, .int h_13, .int h_14])), (h_5, .inr (1, [.ref h_5_0, .ref h_5_1, .ref h_5_2, .ref h_5_3, .ref h_5_4, .ref h_5_5, .ref h_5_6, .ref h_5_7, .ref h_5_8, .ref h_5_9, .ref h_5_10, .ref h_5_11, .ref h_5_12, .int 0])), (h_1, .inr (4, [.ref h_1_0, .ref h_1_1, .ref h_1_2, .ref h_1_3, .int 0])), (h_3, .inr (5, [.ref h_3_0, .ref h_3_1, .int 0, .int 0, .int 0, .int h_3_5])), (h_6, .inr (0, [.ref h_6_0, .ref h_6_1, .ref h_6_2, .ref h_6_3, .ref h_6_4, .ref h_6_5, .int 0, .int 0])), (h_12, .inr (9, [.ref h_12_0, .ref h_12_1, .int 0, .ref h_12_3, .ref h_12_4, .int h_12_5, .int h_12_6, .ref h_12_7, .int 0, .int h_12_9, .int (-1), .ref h_12_11, .ref h_12_12])), (h_0, .inr (10, [.ref h_0_0, .int 0, .int h_0_2, .int h_0_3, .int h_0_4]))] s.heap.size = A at hD ⊢
  have hA : ∀ q : Nat, s.heap.size ≤ q → A q := fun q h => by rw [← hAe]; exact Or.inr h
  have hS : va_S A s.heap s.heap [] := va_S.rf
  have hl := lv_entry ([.ref h, .int a1]) (n := 2) (Nat.le_of_ble_eq_true rfl)
  rw [lg_entry_eq]
  generalize (lg_sl ([.ref h, .int a1]) ++ List.replicate (2 - (lg_sl ([.ref h, .int a1])).length) Slot.unset).toArray = ls at hl ⊢
  have hl : lv_has ls 2 [(0, .ref h), (1, .int a1)] := hl
  refine lv_iload_n hx hb dX11_count_0 rfl (lv_at hl 1 rfl) ?_
  by_cases c_1 : a1 = 0
  · refine lv_tableIn (off := 47) (tgt := 48) hx hb dX11_count_1 (by rw [c_1]; decide) (by rw [c_1]; decide) (by rw [c_1]; decide) (by decide) ?_
    refine lv_aload_n hx hb dX11_count_48 rfl (lv_at hl 0 rfl) ?_
    refine va_get (D := D) (ci := 11) (v := .ref h_5) (C := RX11) (T := TX11) (N := 15) hx hb hg inX11 hown hK hP 0 rfl rfl 5 (by decide) (hg _ wd_688) (fun _ h9 => h9) rfl dX11_count_49 ?_
    refine va_get (D := D) (ci := 1) (v := .int 0) (C := RX1) (T := TX1) (N := 14) hx hb hg inX1 hown hK hP 1 rfl rfl 13 (by decide) (hg _ wd_282) (fun _ h9 => h9) rfl dX11_count_52 ?_
    exact W.iret (v := 0) hx hb hr (fun t ht hW => ⟨⟨0, (), rfl, (by first | (simp [sp_count, c_1]; done) | (simp [sp_count]; done)), trivial⟩, hS.F ht⟩) hS.2.2 dX11_count_55
  by_cases c_2 : a1 = 1
  · refine lv_tableIn (off := 55) (tgt := 56) hx hb dX11_count_1 (by rw [c_2]; decide) (by rw [c_2]; decide) (by rw [c_2]; decide) (by decide) ?_
    refine lv_aload_n hx hb dX11_count_56 rfl (lv_at hl 0 rfl) ?_
    refine va_get (D := D) (ci := 11) (v := .ref h_1) (C := RX11) (T := TX11) (N := 15) hx hb hg inX11 hown hK hP 0 rfl rfl 1 (by decide) (hg _ wd_684) (fun _ h9 => h9) rfl dX11_count_57 ?_
    refine va_get (D := D) (ci := 4) (v := .int 0) (C := RX4) (T := TX4) (N := 5) hx hb hg inX4 hown hK hP 2 rfl rfl 4 (by decide) (hg _ wd_180) (fun _ h9 => h9) rfl dX11_count_60 ?_
    exact W.iret (v := 0) hx hb hr (fun t ht hW => ⟨⟨0, (), rfl, (by first | (simp [sp_count, c_1, c_2]; done) | (simp [sp_count, c_1]; done)), trivial⟩, hS.F ht⟩) hS.2.2 dX11_count_63
  by_cases c_3 : a1 = 2
  · refine lv_tableIn (off := 63) (tgt := 64) hx hb dX11_count_1 (by rw [c_3]; decide) (by rw [c_3]; decide) (by rw [c_3]; decide) (by decide) ?_
    refine lv_aload_n hx hb dX11_count_64 rfl (lv_at hl 0 rfl) ?_
    refine va_get (D := D) (ci := 11) (v := .ref h_3) (C := RX11) (T := TX11) (N := 15) hx hb hg inX11 hown hK hP 0 rfl rfl 3 (by decide) (hg _ wd_686) (fun _ h9 => h9) rfl dX11_count_65 ?_
    refine va_get (D := D) (ci := 5) (v := .int 0) (C := RX5) (T := TX5) (N := 6) hx hb hg inX5 hown hK hP 3 rfl rfl 3 (by decide) (hg _ wd_216) (fun _ h9 => h9) rfl dX11_count_68 ?_
    exact W.iret (v := 0) hx hb hr (fun t ht hW => ⟨⟨0, (), rfl, (by first | (simp [sp_count, c_1, c_2, c_3]; done) | (simp [sp_count, c_1, c_2]; done)), trivial⟩, hS.F ht⟩) hS.2.2 dX11_count_71
  by_cases c_4 : a1 = 3
  · refine lv_tableIn (off := 71) (tgt := 72) hx hb dX11_count_1 (by rw [c_4]; decide) (by rw [c_4]; decide) (by rw [c_4]; decide) (by decide) ?_
    refine lv_aload_n hx hb dX11_count_72 rfl (lv_at hl 0 rfl) ?_
    refine va_get (D := D) (ci := 11) (v := .ref h_3) (C := RX11) (T := TX11) (N := 15) hx hb hg inX11 hown hK hP 0 rfl rfl 3 (by decide) (hg _ wd_686) (fun _ h9 => h9) rfl dX11_count_73 ?_
    refine va_get (D := D) (ci := 5) (v := .int 0) (C := RX5) (T := TX5) (N := 6) hx hb hg inX5 hown hK hP 3 rfl rfl 4 (by decide) (hg _ wd_218) (fun _ h9 => h9) rfl dX11_count_76 ?_
    exact W.iret (v := 0) hx hb hr (fun t ht hW => ⟨⟨0, (), rfl, (by first | (simp [sp_count, c_1, c_2, c_3, c_4]; done) | (simp [sp_count, c_1, c_2, c_3]; done)), trivial⟩, hS.F ht⟩) hS.2.2 dX11_count_79
  by_cases c_5 : a1 = 4
  · refine lv_tableIn (off := 79) (tgt := 80) hx hb dX11_count_1 (by rw [c_5]; decide) (by rw [c_5]; decide) (by rw [c_5]; decide) (by decide) ?_
    refine lv_aload_n hx hb dX11_count_80 rfl (lv_at hl 0 rfl) ?_
    refine va_get (D := D) (ci := 11) (v := .ref h_6) (C := RX11) (T := TX11) (N := 15) hx hb hg inX11 hown hK hP 0 rfl rfl 6 (by decide) (hg _ wd_689) (fun _ h9 => h9) rfl dX11_count_81 ?_
    refine va_get (D := D) (ci := 0) (v := .int 0) (C := RX0) (T := TX0) (N := 8) hx hb hg inX0 hown hK hP 4 rfl rfl 6 (by decide) (hg _ wd_340) (fun _ h9 => h9) rfl dX11_count_84 ?_
    exact W.iret (v := 0) hx hb hr (fun t ht hW => ⟨⟨0, (), rfl, (by first | (simp [sp_count, c_1, c_2, c_3, c_4, c_5]; done) | (simp [sp_count, c_1, c_2, c_3, c_4]; done)), trivial⟩, hS.F ht⟩) hS.2.2 dX11_count_87
  by_cases c_6 : a1 = 5
  · refine lv_tableIn (off := 87) (tgt := 88) hx hb dX11_count_1 (by rw [c_6]; decide) (by rw [c_6]; decide) (by rw [c_6]; decide) (by decide) ?_
    refine lv_aload_n hx hb dX11_count_88 rfl (lv_at hl 0 rfl) ?_
    refine va_get (D := D) (ci := 11) (v := .ref h_6) (C := RX11) (T := TX11) (N := 15) hx hb hg inX11 hown hK hP 0 rfl rfl 6 (by decide) (hg _ wd_689) (fun _ h9 => h9) rfl dX11_count_89 ?_
    refine va_get (D := D) (ci := 0) (v := .int 0) (C := RX0) (T := TX0) (N := 8) hx hb hg inX0 hown hK hP 4 rfl rfl 7 (by decide) (hg _ wd_342) (fun _ h9 => h9) rfl dX11_count_92 ?_
    exact W.iret (v := 0) hx hb hr (fun t ht hW => ⟨⟨0, (), rfl, (by first | (simp [sp_count, c_1, c_2, c_3, c_4, c_5, c_6]; done) | (simp [sp_count, c_1, c_2, c_3, c_4, c_5]; done)), trivial⟩, hS.F ht⟩) hS.2.2 dX11_count_95
  by_cases c_7 : a1 = 6
  · refine lv_tableIn (off := 95) (tgt := 96) hx hb dX11_count_1 (by rw [c_7]; decide) (by rw [c_7]; decide) (by rw [c_7]; decide) (by decide) ?_
    refine lv_aload_n hx hb dX11_count_96 rfl (lv_at hl 0 rfl) ?_
    refine va_get (D := D) (ci := 11) (v := .ref h_12) (C := RX11) (T := TX11) (N := 15) hx hb hg inX11 hown hK hP 0 rfl rfl 12 (by decide) (hg _ wd_695) (fun _ h9 => h9) rfl dX11_count_97 ?_
    refine va_get (D := D) (ci := 9) (v := .int 0) (C := RX9) (T := TX9) (N := 13) hx hb hg inX9 hown hK hP 5 rfl rfl 2 (by decide) (hg _ wd_637) (fun _ h9 => h9) rfl dX11_count_100 ?_
    exact W.iret (v := 0) hx hb hr (fun t ht hW => ⟨⟨0, (), rfl, (by first | (simp [sp_count, c_1, c_2, c_3, c_4, c_5, c_6, c_7]; done) | (simp [sp_count, c_1, c_2, c_3, c_4, c_5, c_6]; done)), trivial⟩, hS.F ht⟩) hS.2.2 dX11_count_103
  by_cases c_8 : a1 = 7
  · refine lv_tableIn (off := 103) (tgt := 104) hx hb dX11_count_1 (by rw [c_8]; decide) (by rw [c_8]; decide) (by rw [c_8]; decide) (by decide) ?_
    refine lv_aload_n hx hb dX11_count_104 rfl (lv_at hl 0 rfl) ?_
    refine va_get (D := D) (ci := 11) (v := .ref h_0) (C := RX11) (T := TX11) (N := 15) hx hb hg inX11 hown hK hP 0 rfl rfl 0 (by decide) (hg _ wd_683) (fun _ h9 => h9) rfl dX11_count_105 ?_
    refine va_get (D := D) (ci := 10) (v := .int 0) (C := RX10) (T := TX10) (N := 5) hx hb hg inX10 hown hK hP 6 rfl rfl 1 (by decide) (hg _ wd_144) (fun _ h9 => h9) rfl dX11_count_108 ?_
    exact W.iret (v := 0) hx hb hr (fun t ht hW => ⟨⟨0, (), rfl, (by first | (simp [sp_count, c_1, c_2, c_3, c_4, c_5, c_6, c_7, c_8]; done) | (simp [sp_count, c_1, c_2, c_3, c_4, c_5, c_6, c_7]; done)), trivial⟩, hS.F ht⟩) hS.2.2 dX11_count_111
  refine lv_tableOut (tgt := 112) hx hb dX11_count_1 (sw_out8 (x := a1) trivial c_1 c_2 c_3 c_4 c_5 c_6 c_7 c_8) (by decide) ?_
  refine lv_iconst (v := (-1)) hx hb dX11_count_112 (by decide) ?_
  exact W.iret (v := (-1)) hx hb hr (fun t ht hW => ⟨⟨(-1), (), rfl, (by simp [sp_count, c_1, c_2, c_3, c_4, c_5, c_6, c_7, c_8]), trivial⟩, hS.F ht⟩) hS.2.2 dX11_count_113
def sp_lacks (a1 : Int32) (a2 : Int32) : Int32 := -1
theorem dX11_lacks_0 : decode cX11_lacks 0 = .ok (.iload_n 1, 1) := by decide +kernel
theorem dX11_lacks_1 : decode cX11_lacks 1 = .ok (.iconst 0, 1) := by decide +kernel
theorem dX11_lacks_2 : decode cX11_lacks 2 = .ok (.aload_n 0, 1) := by decide +kernel
theorem dX11_lacks_3 : decode cX11_lacks 3 = .ok (.getfield 46, 3) := by decide +kernel
theorem dX11_lacks_6 : decode cX11_lacks 6 = .ok (.getfield 311, 3) := by decide +kernel
theorem dX11_lacks_9 : decode cX11_lacks 9 = .ok (.iconst 1, 1) := by decide +kernel
theorem dX11_lacks_10 : decode cX11_lacks 10 = .ok (.isub, 1) := by decide +kernel
theorem dX11_lacks_11 : decode cX11_lacks 11 = .ok (.invokestatic 150, 3) := by decide +kernel
theorem dX11_lacks_14 : decode cX11_lacks 14 = .ok (.ifCond .eq 10, 3) := by decide +kernel
theorem dX11_lacks_24 : decode cX11_lacks 24 = .ok (.iconst (-1), 1) := by decide +kernel
theorem dX11_lacks_25 : decode cX11_lacks 25 = .ok (.ireturn, 1) := by decide +kernel
set_option maxHeartbeats 4000000 in
set_option maxRecDepth 100000 in
theorem c_lacks (l : Launch) (D : va_G) (ct : Nat → ClassId) (h : Nat) (a1 : Int32) (a2 : Int32) (h_0 : Nat) (h_1 : Nat) (h_2 : Nat) (h_3 : Nat) (h_4 : Nat) (h_5 : Nat) (h_6 : Nat) (h_7 : Nat) (h_8 : Nat) (h_9 : Nat) (h_10 : Nat) (h_11 : Nat) (h_12 : Nat) (h_13 : Int32) (h_14 : Int32) (h_6_0 : Nat) (h_6_1 : Nat) (h_6_2 : Nat) (h_6_3 : Nat) (h_6_4 : Nat) (h_6_5 : Nat) (sz : Nat)  : Met l yX11_lacks (wk yX11_lacks cX11_lacks 3 (some .int)) { frames := 1, cells := 0, slots := 0, locals := 22 } (va_Pc [.ref h, .int a1, .int a2] (Wd D [(h, .inr (11, [.ref h_0, .ref h_1, .ref h_2, .ref h_3, .ref h_4, .ref h_5, .ref h_6, .ref h_7, .ref h_8, .ref h_9, .ref h_10, .ref h_11, .ref h_12, .int h_13, .int h_14])), (h_6, .inr (0, [.ref h_6_0, .ref h_6_1, .ref h_6_2, .ref h_6_3, .ref h_6_4, .ref h_6_5, .int 0, .int 0]))] ct sz)) (va_Qi (fun (r : Int32) (u : Unit) => r = sp_lacks a1 a2) (fun _ _ => True) (va_A [(h, .inr (11, [.ref h_0, .ref h_1, .ref h_2, .ref h_3, .ref h_4, .ref h_5, .ref h_6, .ref h_7, .ref h_8, .ref h_9, .ref h_10, .ref h_11, .ref h_12, .int h_13, .int h_14])), (h_6, .inr (0, [.ref h_6_0, .ref h_6_1, .ref h_6_2, .ref h_6_3, .ref h_6_4, .ref h_6_5, .int 0, .int 0]))] sz)) 0 0 (va_A [(h, .inr (11, [.ref h_0, .ref h_1, .ref h_2, .ref h_3, .ref h_4, .ref h_5, .ref h_6, .ref h_7, .ref h_8, .ref h_9, .ref h_10, .ref h_11, .ref h_12, .int h_13, .int h_14])), (h_6, .inr (0, [.ref h_6_0, .ref h_6_1, .ref h_6_2, .ref h_6_3, .ref h_6_4, .ref h_6_5, .int 0, .int 0]))] sz) := by
  refine Met.ofW (cc := cX11_lacks) (maxL := 3) (ret := (some .int)) (by decide) rfl ?_
  intro p e s m args below meth c s₁ B hml hv
  obtain ⟨rfl, hsz, hP, hKK, hD0⟩ := hv
  have hK := hKK.1
  have hx := B.exec
  have hb := B.bytes
  have hr := B.returns
  have hg : ∀ w ∈ gl, w.before _ s = true := fun w h => atoms_spec (ws := wk yX11_lacks cX11_lacks 3 (some .int)) B.pre w (List.mem_cons_of_mem _ h)
  have hown : s.vm.findClass RX11 = some m.cls := findClass_of_methodNamed B.named
  have hlocks := B.notSynchronized
  subst hsz
  have hD := hD0.self (sz := s.heap.size)
  generalize hAe : va_A [(h, .inr (11, [.ref h_0, .ref h_1, .ref h_2, .ref h_3, .ref h_4, .ref h_5, .ref h_6, .ref h_7, .ref h_8, .ref h_9, .ref h_10, .ref h_11, .ref h_12, .int h_13, .int h_14])), (h_6, .inr (0, [.ref h_6_0, .ref h_6_1, .ref h_6_2, .ref h_6_3, .ref h_6_4, .ref h_6_5, .int 0, .int 0]))] s.heap.size = A at hD ⊢
  have hA : ∀ q : Nat, s.heap.size ≤ q → A q := fun q h => by rw [← hAe]; exact Or.inr h
  have hS : va_S A s.heap s.heap [] := va_S.rf
  have hl := lv_entry ([.ref h, .int a1, .int a2]) (n := 3) (Nat.le_of_ble_eq_true rfl)
  rw [lg_entry_eq]
  generalize (lg_sl ([.ref h, .int a1, .int a2]) ++ List.replicate (3 - (lg_sl ([.ref h, .int a1, .int a2])).length) Slot.unset).toArray = ls at hl ⊢
  have hl : lv_has ls 3 [(0, .ref h), (1, .int a1), (2, .int a2)] := hl
  refine lv_iload_n hx hb dX11_lacks_0 rfl (lv_at hl 1 rfl) ?_
  refine lv_iconst (v := 0) hx hb dX11_lacks_1 (by decide) ?_
  refine lv_aload_n hx hb dX11_lacks_2 rfl (lv_at hl 0 rfl) ?_
  refine va_get (D := D) (ci := 11) (v := .ref h_6) (C := RX11) (T := TX11) (N := 15) hx hb hg inX11 hown hK hP 0 rfl rfl 6 (by decide) (hg _ wd_689) (fun _ h9 => h9) rfl dX11_lacks_3 ?_
  refine va_get (D := D) (ci := 0) (v := .int 0) (C := RX0) (T := TX0) (N := 8) hx hb hg inX0 hown hK hP 1 rfl rfl 6 (by decide) (hg _ wd_340) (fun _ h9 => h9) rfl dX11_lacks_6 ?_
  refine lv_iconst (v := 1) hx hb dX11_lacks_9 (by decide) ?_
  refine lv_isub hx hb dX11_lacks_10 ?_
  rw [show ((0 - 1 : Int32) = (-1)) by decide]
  have hPc := hP.sub (ws' := []) [] rfl
  refine z_calli (va_runS (As := [.int a1, .int 0, .int (-1)]) (rest := []) ⟨hx, hb, hml, hown, hg⟩ (c_within l D ct a1 0 (-1) ) (va_cwS 3 hg (gd_S wd_959 wd_917 wd_107 wd_918) rfl rfl rfl (by decide +kernel) ⟨Nat.le_of_ble_eq_true rfl, Nat.le_of_ble_eq_true rfl⟩) (Wr_S hPc hKK) rfl rfl hl.1 rfl (lv_room (Nat.le_of_ble_eq_true rfl)) dX11_lacks_11 ⟨Nat.le_of_ble_eq_true rfl, Nat.le_of_ble_eq_true rfl⟩) (fun r_1 hw_1 => ?_)
  subst hw_1
  rw [bw_em]
  refine lv_if_eq (tgt := 24) hx hb dX11_lacks_14 (by decide) (fun _ => ?_) (fun h => absurd (by decide) h)
  refine lv_iconst (v := (-1)) hx hb dX11_lacks_24 (by decide) ?_
  exact W.iret (v := (-1)) hx hb hr (fun t ht hW => ⟨⟨(-1), (), rfl, (by simp [sp_lacks]), trivial⟩, hS.F ht⟩) hS.2.2 dX11_lacks_25
def sp_caseOf (a1 : Int32) (a2 : Int32) (a3 : Int32) : Int32 := -1
theorem dX11_caseOf_0 : decode cX11_caseOf 0 = .ok (.iload_n 1, 1) := by decide +kernel
theorem dX11_caseOf_1 : decode cX11_caseOf 1 = .ok (.iconst 0, 1) := by decide +kernel
theorem dX11_caseOf_2 : decode cX11_caseOf 2 = .ok (.aload_n 0, 1) := by decide +kernel
theorem dX11_caseOf_3 : decode cX11_caseOf 3 = .ok (.getfield 96, 3) := by decide +kernel
theorem dX11_caseOf_6 : decode cX11_caseOf 6 = .ok (.getfield 408, 3) := by decide +kernel
theorem dX11_caseOf_9 : decode cX11_caseOf 9 = .ok (.iconst 1, 1) := by decide +kernel
theorem dX11_caseOf_10 : decode cX11_caseOf 10 = .ok (.isub, 1) := by decide +kernel
theorem dX11_caseOf_11 : decode cX11_caseOf 11 = .ok (.invokestatic 150, 3) := by decide +kernel
theorem dX11_caseOf_14 : decode cX11_caseOf 14 = .ok (.ifCond .eq 17, 3) := by decide +kernel
theorem dX11_caseOf_31 : decode cX11_caseOf 31 = .ok (.iconst (-1), 1) := by decide +kernel
theorem dX11_caseOf_32 : decode cX11_caseOf 32 = .ok (.ireturn, 1) := by decide +kernel
set_option maxHeartbeats 4000000 in
set_option maxRecDepth 100000 in
theorem c_caseOf (l : Launch) (D : va_G) (ct : Nat → ClassId) (h : Nat) (a1 : Int32) (a2 : Int32) (a3 : Int32) (h_0 : Nat) (h_1 : Nat) (h_2 : Nat) (h_3 : Nat) (h_4 : Nat) (h_5 : Nat) (h_6 : Nat) (h_7 : Nat) (h_8 : Nat) (h_9 : Nat) (h_10 : Nat) (h_11 : Nat) (h_12 : Nat) (h_13 : Int32) (h_14 : Int32) (h_12_0 : Nat) (h_12_1 : Nat) (h_12_3 : Nat) (h_12_4 : Nat) (h_12_5 : Int32) (h_12_6 : Int32) (h_12_7 : Nat) (h_12_9 : Int32) (h_12_11 : Nat) (h_12_12 : Nat) (sz : Nat)  : Met l yX11_caseOf (wk yX11_caseOf cX11_caseOf 4 (some .int)) { frames := 1, cells := 0, slots := 0, locals := 22 } (va_Pc [.ref h, .int a1, .int a2, .int a3] (Wd D [(h, .inr (11, [.ref h_0, .ref h_1, .ref h_2, .ref h_3, .ref h_4, .ref h_5, .ref h_6, .ref h_7, .ref h_8, .ref h_9, .ref h_10, .ref h_11, .ref h_12, .int h_13, .int h_14])), (h_12, .inr (9, [.ref h_12_0, .ref h_12_1, .int 0, .ref h_12_3, .ref h_12_4, .int h_12_5, .int h_12_6, .ref h_12_7, .int 0, .int h_12_9, .int (-1), .ref h_12_11, .ref h_12_12]))] ct sz)) (va_Qi (fun (r : Int32) (u : Unit) => r = sp_caseOf a1 a2 a3) (fun _ _ => True) (va_A [(h, .inr (11, [.ref h_0, .ref h_1, .ref h_2, .ref h_3, .ref h_4, .ref h_5, .ref h_6, .ref h_7, .ref h_8, .ref h_9, .ref h_10, .ref h_11, .ref h_12, .int h_13, .int h_14])), (h_12, .inr (9, [.ref h_12_0, .ref h_12_1, .int 0, .ref h_12_3, .ref h_12_4, .int h_12_5, .int h_12_6, .ref h_12_7, .int 0, .int h_12_9, .int (-1), .ref h_12_11, .ref h_12_12]))] sz)) 0 0 (va_A [(h, .inr (11, [.ref h_0, .ref h_1, .ref h_2, .ref h_3, .ref h_4, .ref h_5, .ref h_6, .ref h_7, .ref h_8, .ref h_9, .ref h_10, .ref h_11, .ref h_12, .int h_13, .int h_14])), (h_12, .inr (9, [.ref h_12_0, .ref h_12_1, .int 0, .ref h_12_3, .ref h_12_4, .int h_12_5, .int h_12_6, .ref h_12_7, .int 0, .int h_12_9, .int (-1), .ref h_12_11, .ref h_12_12]))] sz) := by
  refine Met.ofW (cc := cX11_caseOf) (maxL := 4) (ret := (some .int)) (by decide) rfl ?_
  intro p e s m args below meth c s₁ B hml hv
  obtain ⟨rfl, hsz, hP, hKK, hD0⟩ := hv
  have hK := hKK.1
  have hx := B.exec
  have hb := B.bytes
  have hr := B.returns
  have hg : ∀ w ∈ gl, w.before _ s = true := fun w h => atoms_spec (ws := wk yX11_caseOf cX11_caseOf 4 (some .int)) B.pre w (List.mem_cons_of_mem _ h)
  have hown : s.vm.findClass RX11 = some m.cls := findClass_of_methodNamed B.named
  have hlocks := B.notSynchronized
  subst hsz
  have hD := hD0.self (sz := s.heap.size)
  generalize hAe : va_A [(h, .inr (11, [.ref h_0, .ref h_1, .ref h_2, .ref h_3, .ref h_4, .ref h_5, .ref h_6, .ref h_7, .ref h_8, .ref h_9, .ref h_10, .ref h_11, .ref h_12, .int h_13, .int h_14])), (h_12, .inr (9, [.ref h_12_0, .ref h_12_1, .int 0, .ref h_12_3, .ref h_12_4, .int h_12_5, .int h_12_6, .ref h_12_7, .int 0, .int h_12_9, .int (-1), .ref h_12_11, .ref h_12_12]))] s.heap.size = A at hD ⊢
  have hA : ∀ q : Nat, s.heap.size ≤ q → A q := fun q h => by rw [← hAe]; exact Or.inr h
  have hS : va_S A s.heap s.heap [] := va_S.rf
  have hl := lv_entry ([.ref h, .int a1, .int a2, .int a3]) (n := 4) (Nat.le_of_ble_eq_true rfl)
  rw [lg_entry_eq]
  generalize (lg_sl ([.ref h, .int a1, .int a2, .int a3]) ++ List.replicate (4 - (lg_sl ([.ref h, .int a1, .int a2, .int a3])).length) Slot.unset).toArray = ls at hl ⊢
  have hl : lv_has ls 4 [(0, .ref h), (1, .int a1), (2, .int a2), (3, .int a3)] := hl
  refine lv_iload_n hx hb dX11_caseOf_0 rfl (lv_at hl 1 rfl) ?_
  refine lv_iconst (v := 0) hx hb dX11_caseOf_1 (by decide) ?_
  refine lv_aload_n hx hb dX11_caseOf_2 rfl (lv_at hl 0 rfl) ?_
  refine va_get (D := D) (ci := 11) (v := .ref h_12) (C := RX11) (T := TX11) (N := 15) hx hb hg inX11 hown hK hP 0 rfl rfl 12 (by decide) (hg _ wd_695) (fun _ h9 => h9) rfl dX11_caseOf_3 ?_
  refine va_get (D := D) (ci := 9) (v := .int 0) (C := RX9) (T := TX9) (N := 13) hx hb hg inX9 hown hK hP 1 rfl rfl 2 (by decide) (hg _ wd_637) (fun _ h9 => h9) rfl dX11_caseOf_6 ?_
  refine lv_iconst (v := 1) hx hb dX11_caseOf_9 (by decide) ?_
  refine lv_isub hx hb dX11_caseOf_10 ?_
  rw [show ((0 - 1 : Int32) = (-1)) by decide]
  have hPc := hP.sub (ws' := []) [] rfl
  refine z_calli (va_runS (As := [.int a1, .int 0, .int (-1)]) (rest := []) ⟨hx, hb, hml, hown, hg⟩ (c_within l D ct a1 0 (-1) ) (va_cwS 3 hg (gd_S wd_959 wd_917 wd_107 wd_918) rfl rfl rfl (by decide +kernel) ⟨Nat.le_of_ble_eq_true rfl, Nat.le_of_ble_eq_true rfl⟩) (Wr_S hPc hKK) rfl rfl hl.1 rfl (lv_room (Nat.le_of_ble_eq_true rfl)) dX11_caseOf_11 ⟨Nat.le_of_ble_eq_true rfl, Nat.le_of_ble_eq_true rfl⟩) (fun r_1 hw_1 => ?_)
  subst hw_1
  rw [bw_em]
  refine lv_if_eq (tgt := 31) hx hb dX11_caseOf_14 (by decide) (fun _ => ?_) (fun h => absurd (by decide) h)
  refine lv_iconst (v := (-1)) hx hb dX11_caseOf_31 (by decide) ?_
  exact W.iret (v := (-1)) hx hb hr (fun t ht hW => ⟨⟨(-1), (), rfl, (by simp [sp_caseOf]), trivial⟩, hS.F ht⟩) hS.2.2 dX11_caseOf_32
theorem dX0_hasVoteWithin_0 : decode cX0_hasVoteWithin 0 = .ok (.iconst 0, 1) := by decide +kernel
theorem dX0_hasVoteWithin_1 : decode cX0_hasVoteWithin 1 = .ok (.istore_n 3, 1) := by decide +kernel
theorem dX0_hasVoteWithin_2 : decode cX0_hasVoteWithin 2 = .ok (.iload_n 3, 1) := by decide +kernel
theorem dX0_hasVoteWithin_3 : decode cX0_hasVoteWithin 3 = .ok (.aload_n 0, 1) := by decide +kernel
theorem dX0_hasVoteWithin_4 : decode cX0_hasVoteWithin 4 = .ok (.getfield 32, 3) := by decide +kernel
theorem wd_341 : (Cond.fieldLink "VoteRoll$Acts" 32 "VoteRoll$Acts" "voteCount" "I") ∈ gl := gl_at 341 (by decide +kernel) (by decide +kernel)
theorem dX0_hasVoteWithin_7 : decode cX0_hasVoteWithin 7 = .ok (.if_icmp .ge 31, 3) := by decide +kernel
theorem dX0_hasVoteWithin_38 : decode cX0_hasVoteWithin 38 = .ok (.iconst 0, 1) := by decide +kernel
theorem dX0_hasVoteWithin_39 : decode cX0_hasVoteWithin 39 = .ok (.ireturn, 1) := by decide +kernel
set_option maxHeartbeats 4000000 in
set_option maxRecDepth 100000 in
theorem c_hasVote0 (l : Launch) (D : va_G) (ct : Nat → ClassId) (q : Nat) (a1 : Int32) (a2 : Int32) (q_0 : Nat) (q_1 : Nat) (q_2 : Nat) (q_3 : Nat) (q_4 : Nat) (q_5 : Nat)  : Met l yX0_hasVoteWithin (wk yX0_hasVoteWithin cX0_hasVoteWithin 4 (some .boolean)) { frames := 0, cells := 0, slots := 0, locals := 0 } (va_Pc [.ref q, .int a1, .int a2] (Wr D [(q, .inr (0, [.ref q_0, .ref q_1, .ref q_2, .ref q_3, .ref q_4, .ref q_5, .int 0, .int 0]))] ct)) (zI (fun r : Int32 => r = 0)) 0 0 (fun _ => False) := by
  refine Met.ofW (cc := cX0_hasVoteWithin) (maxL := 4) (ret := (some .boolean)) (by decide) rfl ?_
  intro p e s m args below meth c s₁ B hml hv
  obtain ⟨rfl, hP, hKK⟩ := hv
  have hK := hKK.1
  have hx := B.exec
  have hb := B.bytes
  have hr := B.returns
  have hg : ∀ w ∈ gl, w.before _ s = true := fun w h => atoms_spec (ws := wk yX0_hasVoteWithin cX0_hasVoteWithin 4 (some .boolean)) B.pre w (List.mem_cons_of_mem _ h)
  have hown : s.vm.findClass RX0 = some m.cls := findClass_of_methodNamed B.named
  have hlocks := B.notSynchronized
  have hl := lv_entry ([.ref q, .int a1, .int a2]) (n := 4) (Nat.le_of_ble_eq_true rfl)
  rw [lg_entry_eq]
  generalize (lg_sl ([.ref q, .int a1, .int a2]) ++ List.replicate (4 - (lg_sl ([.ref q, .int a1, .int a2])).length) Slot.unset).toArray = ls at hl ⊢
  have hl : lv_has ls 4 [(0, .ref q), (1, .int a1), (2, .int a2)] := hl
  refine lv_iconst (v := 0) hx hb dX0_hasVoteWithin_0 (by decide) ?_
  refine lv_istore_n (lv' := [(3, .int 0), (0, .ref q), (1, .int a1), (2, .int a2)]) hx hb dX0_hasVoteWithin_1 rfl hl (by decide) rfl (fun ls hl => ?_)
  refine lv_iload_n hx hb dX0_hasVoteWithin_2 rfl (lv_at hl 0 rfl) ?_
  refine lv_aload_n hx hb dX0_hasVoteWithin_3 rfl (lv_at hl 1 rfl) ?_
  refine va_get (D := D) (ci := 0) (v := .int 0) (C := RX0) (T := TX0) (N := 8) hx hb hg inX0 hown hK hP 0 rfl rfl 7 (by decide) (hg _ wd_341) (fun _ h9 => h9) rfl dX0_hasVoteWithin_4 ?_
  refine lv_icmp_ge (tgt := 38) hx hb dX0_hasVoteWithin_7 (by decide) (fun _ => ?_) (fun h => absurd (by decide) h)
  refine lv_iconst (v := 0) hx hb dX0_hasVoteWithin_38 (by decide) ?_
  exact W.zret (v := 0) hx hb hr rfl (fun t ht hW => ⟨0, rfl, rfl, ht⟩) (fun q h => by cases h) dX0_hasVoteWithin_39
def sp_vote (a1 : Int32) : Int32 := if bw a1 0 40000 = 0 then (-1) else 1
theorem dX11_vote_0 : decode cX11_vote 0 = .ok (.iload_n 1, 1) := by decide +kernel
theorem dX11_vote_1 : decode cX11_vote 1 = .ok (.invokestatic 159, 3) := by decide +kernel
theorem dX11_vote_4 : decode cX11_vote 4 = .ok (.ifCond .ne 9, 3) := by decide +kernel
theorem dX11_vote_13 : decode cX11_vote 13 = .ok (.aload_n 0, 1) := by decide +kernel
theorem dX11_vote_14 : decode cX11_vote 14 = .ok (.getfield 46, 3) := by decide +kernel
theorem dX11_vote_17 : decode cX11_vote 17 = .ok (.iload_n 1, 1) := by decide +kernel
theorem dX11_vote_18 : decode cX11_vote 18 = .ok (.iload_n 1, 1) := by decide +kernel
theorem dX11_vote_19 : decode cX11_vote 19 = .ok (.invokevirtual 316, 3) := by decide +kernel
theorem wd_1174 : (Cond.code yX0_hasVoteWithin cX0_hasVoteWithin 4 (some .boolean)) ∈ gl := gl_at 1174 (by decide +kernel) (by decide +kernel)
theorem wd_1171 : (Cond.methodLink "VoteRoll" 316 yX0_hasVoteWithin) ∈ gl := gl_at 1171 (by decide +kernel) (by decide +kernel)
theorem wd_112 : (Cond.initialized "VoteRoll$Acts") ∈ gl := gl_at 112 (by decide +kernel) (by decide +kernel)
theorem wd_1172 : (Cond.instanceMethod yX0_hasVoteWithin) ∈ gl := gl_at 1172 (by decide +kernel) (by decide +kernel)
theorem wd_1173 : (Cond.selects "VoteRoll$Acts" yX0_hasVoteWithin yX0_hasVoteWithin) ∈ gl := gl_at 1173 (by decide +kernel) (by decide +kernel)
theorem dX11_vote_22 : decode cX11_vote 22 = .ok (.ifCond .eq 10, 3) := by decide +kernel
theorem dX11_vote_32 : decode cX11_vote 32 = .ok (.aload_n 0, 1) := by decide +kernel
theorem dX11_vote_33 : decode cX11_vote 33 = .ok (.getfield 46, 3) := by decide +kernel
theorem dX11_vote_36 : decode cX11_vote 36 = .ok (.getfield 320, 3) := by decide +kernel
theorem dX11_vote_39 : decode cX11_vote 39 = .ok (.bipush 12, 2) := by decide +kernel
theorem dX11_vote_41 : decode cX11_vote 41 = .ok (.if_icmp .lt 10, 3) := by decide +kernel
theorem dX11_vote_51 : decode cX11_vote 51 = .ok (.aload_n 0, 1) := by decide +kernel
theorem dX11_vote_52 : decode cX11_vote 52 = .ok (.getfield 46, 3) := by decide +kernel
theorem dX11_vote_55 : decode cX11_vote 55 = .ok (.getfield 323, 3) := by decide +kernel
theorem wd_337 : (Cond.fieldLink "VoteRoll" 323 "VoteRoll$Acts" "votes" "[I") ∈ gl := gl_at 337 (by decide +kernel) (by decide +kernel)
theorem dX11_vote_58 : decode cX11_vote 58 = .ok (.aload_n 0, 1) := by decide +kernel
theorem dX11_vote_59 : decode cX11_vote 59 = .ok (.getfield 46, 3) := by decide +kernel
theorem dX11_vote_62 : decode cX11_vote 62 = .ok (.getfield 320, 3) := by decide +kernel
theorem dX11_vote_65 : decode cX11_vote 65 = .ok (.iload_n 1, 1) := by decide +kernel
theorem dX11_vote_66 : decode cX11_vote 66 = .ok (.iastore, 1) := by decide +kernel
theorem dX11_vote_67 : decode cX11_vote 67 = .ok (.aload_n 0, 1) := by decide +kernel
theorem dX11_vote_68 : decode cX11_vote 68 = .ok (.getfield 46, 3) := by decide +kernel
theorem dX11_vote_71 : decode cX11_vote 71 = .ok (.dup, 1) := by decide +kernel
theorem dX11_vote_72 : decode cX11_vote 72 = .ok (.getfield 320, 3) := by decide +kernel
theorem dX11_vote_75 : decode cX11_vote 75 = .ok (.iconst 1, 1) := by decide +kernel
theorem dX11_vote_76 : decode cX11_vote 76 = .ok (.iadd, 1) := by decide +kernel
theorem dX11_vote_77 : decode cX11_vote 77 = .ok (.putfield 320, 3) := by decide +kernel
theorem dX11_vote_80 : decode cX11_vote 80 = .ok (.aload_n 0, 1) := by decide +kernel
theorem dX11_vote_81 : decode cX11_vote 81 = .ok (.aload_n 0, 1) := by decide +kernel
theorem dX11_vote_82 : decode cX11_vote 82 = .ok (.getfield 46, 3) := by decide +kernel
theorem dX11_vote_85 : decode cX11_vote 85 = .ok (.getfield 320, 3) := by decide +kernel
theorem dX11_vote_88 : decode cX11_vote 88 = .ok (.invokevirtual 140, 3) := by decide +kernel
theorem dX11_vote_91 : decode cX11_vote 91 = .ok (.ireturn, 1) := by decide +kernel
theorem dX11_vote_7 : decode cX11_vote 7 = .ok (.aload_n 0, 1) := by decide +kernel
theorem dX11_vote_8 : decode cX11_vote 8 = .ok (.iconst (-1), 1) := by decide +kernel
theorem dX11_vote_9 : decode cX11_vote 9 = .ok (.invokevirtual 118, 3) := by decide +kernel
theorem dX11_vote_12 : decode cX11_vote 12 = .ok (.ireturn, 1) := by decide +kernel
set_option maxHeartbeats 4000000 in
set_option maxRecDepth 100000 in
theorem c_vote (l : Launch) (D : va_G) (ct : Nat → ClassId) (h : Nat) (a1 : Int32) (h_0 : Nat) (h_1 : Nat) (h_2 : Nat) (h_3 : Nat) (h_4 : Nat) (h_5 : Nat) (h_6 : Nat) (h_7 : Nat) (h_8 : Nat) (h_9 : Nat) (h_10 : Nat) (h_11 : Nat) (h_12 : Nat) (h_13 : Int32) (h_14 : Int32) (h_6_0 : Nat) (h_6_1 : Nat) (h_6_2 : Nat) (h_6_3 : Nat) (h_6_4 : Nat) (h_6_5 : Nat) (f : Nat → Int32) (sz : Nat)  : Met l yX11_vote (wk yX11_vote cX11_vote 2 (some .int)) { frames := 2, cells := 0, slots := 0, locals := 42 } (va_Pc [.ref h, .int a1] (Wd D [(h, .inr (11, [.ref h_0, .ref h_1, .ref h_2, .ref h_3, .ref h_4, .ref h_5, .ref h_6, .ref h_7, .ref h_8, .ref h_9, .ref h_10, .ref h_11, .ref h_12, .int h_13, .int h_14])), (h_6, .inr (0, [.ref h_6_0, .ref h_6_1, .ref h_6_2, .ref h_6_3, .ref h_6_4, .ref h_6_5, .int 0, .int 0])), (h_6_5, .inl (ct 1, 12, .inl f))] ct sz)) (va_Qi (fun (r : Int32) (u : Unit) => r = sp_vote a1) (fun _ _ => True) (va_A [(h, .inr (11, [.ref h_0, .ref h_1, .ref h_2, .ref h_3, .ref h_4, .ref h_5, .ref h_6, .ref h_7, .ref h_8, .ref h_9, .ref h_10, .ref h_11, .ref h_12, .int h_13, .int h_14])), (h_6, .inr (0, [.ref h_6_0, .ref h_6_1, .ref h_6_2, .ref h_6_3, .ref h_6_4, .ref h_6_5, .int 0, .int 0])), (h_6_5, .inl (ct 1, 12, .inl f))] sz)) 0 0 (va_A [(h, .inr (11, [.ref h_0, .ref h_1, .ref h_2, .ref h_3, .ref h_4, .ref h_5, .ref h_6, .ref h_7, .ref h_8, .ref h_9, .ref h_10, .ref h_11, .ref h_12, .int h_13, .int h_14])), (h_6, .inr (0, [.ref h_6_0, .ref h_6_1, .ref h_6_2, .ref h_6_3, .ref h_6_4, .ref h_6_5, .int 0, .int 0])), (h_6_5, .inl (ct 1, 12, .inl f))] sz) := by
  refine Met.ofW (cc := cX11_vote) (maxL := 2) (ret := (some .int)) (by decide) rfl ?_
  intro p e s m args below meth c s₁ B hml hv
  obtain ⟨rfl, hsz, hP, hKK, hD0⟩ := hv
  have hK := hKK.1
  have hx := B.exec
  have hb := B.bytes
  have hr := B.returns
  have hg : ∀ w ∈ gl, w.before _ s = true := fun w h => atoms_spec (ws := wk yX11_vote cX11_vote 2 (some .int)) B.pre w (List.mem_cons_of_mem _ h)
  have hown : s.vm.findClass RX11 = some m.cls := findClass_of_methodNamed B.named
  have hlocks := B.notSynchronized
  subst hsz
  have hD := hD0.self (sz := s.heap.size)
  generalize hAe : va_A [(h, .inr (11, [.ref h_0, .ref h_1, .ref h_2, .ref h_3, .ref h_4, .ref h_5, .ref h_6, .ref h_7, .ref h_8, .ref h_9, .ref h_10, .ref h_11, .ref h_12, .int h_13, .int h_14])), (h_6, .inr (0, [.ref h_6_0, .ref h_6_1, .ref h_6_2, .ref h_6_3, .ref h_6_4, .ref h_6_5, .int 0, .int 0])), (h_6_5, .inl (ct 1, 12, .inl f))] s.heap.size = A at hD ⊢
  have hA : ∀ q : Nat, s.heap.size ≤ q → A q := fun q h => by rw [← hAe]; exact Or.inr h
  have hS : va_S A s.heap s.heap [] := va_S.rf
  have hl := lv_entry ([.ref h, .int a1]) (n := 2) (Nat.le_of_ble_eq_true rfl)
  rw [lg_entry_eq]
  generalize (lg_sl ([.ref h, .int a1]) ++ List.replicate (2 - (lg_sl ([.ref h, .int a1])).length) Slot.unset).toArray = ls at hl ⊢
  have hl : lv_has ls 2 [(0, .ref h), (1, .int a1)] := hl
  refine lv_iload_n hx hb dX11_vote_0 rfl (lv_at hl 1 rfl) ?_
  have hPc := hP.sub (ws' := []) [] rfl
  refine z_calli (va_runS (As := [.int a1]) (rest := []) ⟨hx, hb, hml, hown, hg⟩ (c_isDay l D ct a1 ) (va_cwS 1 hg (gd_S wd_964 wd_965 wd_107 wd_966) rfl rfl rfl (by decide +kernel) ⟨Nat.le_of_ble_eq_true rfl, Nat.le_of_ble_eq_true rfl⟩) (Wr_S hPc hKK) rfl rfl hl.1 rfl (lv_room (Nat.le_of_ble_eq_true rfl)) dX11_vote_1 ⟨Nat.le_of_ble_eq_true rfl, Nat.le_of_ble_eq_true rfl⟩) (fun r_1 hw_1 => ?_)
  subst hw_1
  refine lv_if_ne (tgt := 13) hx hb dX11_vote_4 (by decide) (fun c_2 => ?_) (fun c_2 => ?_)
  · refine lv_aload_n hx hb dX11_vote_13 rfl (lv_at hl 0 rfl) ?_
    refine va_get (D := D) (ci := 11) (v := .ref h_6) (C := RX11) (T := TX11) (N := 15) hx hb hg inX11 hown hK hP 0 rfl rfl 6 (by decide) (hg _ wd_689) (fun _ h9 => h9) rfl dX11_vote_14 ?_
    refine lv_iload_n hx hb dX11_vote_17 rfl (lv_at hl 1 rfl) ?_
    refine lv_iload_n hx hb dX11_vote_18 rfl (lv_at hl 1 rfl) ?_
    have hPc := hP.sub (ws' := [(h_6, .inr (0, [.ref h_6_0, .ref h_6_1, .ref h_6_2, .ref h_6_3, .ref h_6_4, .ref h_6_5, .int 0, .int 0]))]) [1] rfl
    refine z_calli (va_runV (As := [.int a1, .int a1]) (rest := []) ⟨hx, hb, hml, hown, hg⟩ (c_hasVote0 l D ct h_6 a1 a1 h_6_0 h_6_1 h_6_2 h_6_3 h_6_4 h_6_5 ) (cwV 2 hg (gd_V wd_1171 wd_1172 wd_1173 wd_112 wd_1174) rfl rfl rfl (by decide +kernel) ⟨Nat.le_of_ble_eq_true rfl, Nat.le_of_ble_eq_true rfl⟩) (Wr_V hPc hKK (va_recv hK hPc (ci := 0) (q0 := 0) rfl rfl)) rfl rfl hl.1 rfl (lv_room (Nat.le_of_ble_eq_true rfl)) dX11_vote_19 ⟨Nat.le_of_ble_eq_true rfl, Nat.le_of_ble_eq_true rfl⟩) (fun r_3 hw_3 => ?_)
    subst hw_3
    refine lv_if_eq (tgt := 32) hx hb dX11_vote_22 (by decide) (fun _ => ?_) (fun h => absurd (by decide) h)
    refine lv_aload_n hx hb dX11_vote_32 rfl (lv_at hl 0 rfl) ?_
    refine va_get (D := D) (ci := 11) (v := .ref h_6) (C := RX11) (T := TX11) (N := 15) hx hb hg inX11 hown hK hP 0 rfl rfl 6 (by decide) (hg _ wd_689) (fun _ h9 => h9) rfl dX11_vote_33 ?_
    refine va_get (D := D) (ci := 0) (v := .int 0) (C := RX0) (T := TX0) (N := 8) hx hb hg inX0 hown hK hP 1 rfl rfl 7 (by decide) (hg _ wd_342) (fun _ h9 => h9) rfl dX11_vote_36 ?_
    refine lv_bipush (v := 12) hx hb dX11_vote_39 (by decide) ?_
    refine lv_icmp_lt (tgt := 51) hx hb dX11_vote_41 (by decide) (fun _ => ?_) (fun h => absurd (by decide) h)
    refine lv_aload_n hx hb dX11_vote_51 rfl (lv_at hl 0 rfl) ?_
    refine va_get (D := D) (ci := 11) (v := .ref h_6) (C := RX11) (T := TX11) (N := 15) hx hb hg inX11 hown hK hP 0 rfl rfl 6 (by decide) (hg _ wd_689) (fun _ h9 => h9) rfl dX11_vote_52 ?_
    refine va_get (D := D) (ci := 0) (v := .ref h_6_5) (C := RX0) (T := TX0) (N := 8) hx hb hg inX0 hown hK hP 1 rfl rfl 5 (by decide) (hg _ wd_337) (fun _ h9 => h9) rfl dX11_vote_55 ?_
    refine lv_aload_n hx hb dX11_vote_58 rfl (lv_at hl 0 rfl) ?_
    refine va_get (D := D) (ci := 11) (v := .ref h_6) (C := RX11) (T := TX11) (N := 15) hx hb hg inX11 hown hK hP 0 rfl rfl 6 (by decide) (hg _ wd_689) (fun _ h9 => h9) rfl dX11_vote_59 ?_
    refine va_get (D := D) (ci := 0) (v := .int 0) (C := RX0) (T := TX0) (N := 8) hx hb hg inX0 hown hK hP 1 rfl rfl 7 (by decide) (hg _ wd_342) (fun _ h9 => h9) rfl dX11_vote_62 ?_
    refine lv_iload_n hx hb dX11_vote_65 rfl (lv_at hl 1 rfl) ?_
    refine va_iast hx hb hK hP hD hS 2 1 rfl rfl (by unfold vp_in; decide) dX11_vote_66 (fun H locs hP hD hS => ?_)
    obtain ⟨f_6, ef_6⟩ : ∃ z : Nat → Int32, z = upd f (0 : Int32).toNatClampNeg a1 := ⟨_, rfl⟩
    have hP : va_P D vwCl [(h, .inr (11, [.ref h_0, .ref h_1, .ref h_2, .ref h_3, .ref h_4, .ref h_5, .ref h_6, .ref h_7, .ref h_8, .ref h_9, .ref h_10, .ref h_11, .ref h_12, .int h_13, .int h_14])), (h_6, .inr (0, [.ref h_6_0, .ref h_6_1, .ref h_6_2, .ref h_6_3, .ref h_6_4, .ref h_6_5, .int 0, .int 0])), (h_6_5, .inl (ct 1, 12, .inl f_6))] H := by rw [ef_6]; exact hP
    have hD : va_D A [(h, .inr (11, [.ref h_0, .ref h_1, .ref h_2, .ref h_3, .ref h_4, .ref h_5, .ref h_6, .ref h_7, .ref h_8, .ref h_9, .ref h_10, .ref h_11, .ref h_12, .int h_13, .int h_14])), (h_6, .inr (0, [.ref h_6_0, .ref h_6_1, .ref h_6_2, .ref h_6_3, .ref h_6_4, .ref h_6_5, .int 0, .int 0])), (h_6_5, .inl (ct 1, 12, .inl f_6))] := by rw [ef_6]; exact hD
    refine lv_aload_n hx hb dX11_vote_67 rfl (lv_at hl 0 rfl) ?_
    refine va_get (D := D) (ci := 11) (v := .ref h_6) (C := RX11) (T := TX11) (N := 15) hx hb hg inX11 hown hK hP 0 rfl rfl 6 (by decide) (hg _ wd_689) (fun _ h9 => h9) rfl dX11_vote_68 ?_
    refine lv_dup hx hb dX11_vote_71 rfl ?_
    refine va_get (D := D) (ci := 0) (v := .int 0) (C := RX0) (T := TX0) (N := 8) hx hb hg inX0 hown hK hP 1 rfl rfl 7 (by decide) (hg _ wd_342) (fun _ h9 => h9) rfl dX11_vote_72 ?_
    refine lv_iconst (v := 1) hx hb dX11_vote_75 (by decide) ?_
    refine lv_iadd hx hb dX11_vote_76 ?_
    rw [show ((0 + 1 : Int32) = 1) by decide]
    refine va_put (D := D) (ci := 0) (v := .int 1) (ty := .int) (C := RX0) (T := TX0) (N := 8) hx hb hg inX0 tyX0 tyX0_ok nmX0 hown hK hP hD hS 1 rfl rfl 7 (by decide) (hg _ wd_342) (fun _ h9 => h9) rfl (by decide +kernel) rfl rfl (Nat.le_of_ble_eq_true rfl) dX11_vote_77 (fun H locs hP hD hS => ?_)
    have hP : va_P D vwCl [(h, .inr (11, [.ref h_0, .ref h_1, .ref h_2, .ref h_3, .ref h_4, .ref h_5, .ref h_6, .ref h_7, .ref h_8, .ref h_9, .ref h_10, .ref h_11, .ref h_12, .int h_13, .int h_14])), (h_6, .inr (0, [.ref h_6_0, .ref h_6_1, .ref h_6_2, .ref h_6_3, .ref h_6_4, .ref h_6_5, .int 0, .int 1])), (h_6_5, .inl (ct 1, 12, .inl f_6))] H := hP
    have hD : va_D A [(h, .inr (11, [.ref h_0, .ref h_1, .ref h_2, .ref h_3, .ref h_4, .ref h_5, .ref h_6, .ref h_7, .ref h_8, .ref h_9, .ref h_10, .ref h_11, .ref h_12, .int h_13, .int h_14])), (h_6, .inr (0, [.ref h_6_0, .ref h_6_1, .ref h_6_2, .ref h_6_3, .ref h_6_4, .ref h_6_5, .int 0, .int 1])), (h_6_5, .inl (ct 1, 12, .inl f_6))] := hD
    refine lv_aload_n hx hb dX11_vote_80 rfl (lv_at hl 0 rfl) ?_
    refine lv_aload_n hx hb dX11_vote_81 rfl (lv_at hl 0 rfl) ?_
    refine va_get (D := D) (ci := 11) (v := .ref h_6) (C := RX11) (T := TX11) (N := 15) hx hb hg inX11 hown hK hP 0 rfl rfl 6 (by decide) (hg _ wd_689) (fun _ h9 => h9) rfl dX11_vote_82 ?_
    refine va_get (D := D) (ci := 0) (v := .int 1) (C := RX0) (T := TX0) (N := 8) hx hb hg inX0 hown hK hP 1 rfl rfl 7 (by decide) (hg _ wd_342) (fun _ h9 => h9) rfl dX11_vote_85 ?_
    have hPc := hP.sub (ws' := [(h, .inr (11, [.ref h_0, .ref h_1, .ref h_2, .ref h_3, .ref h_4, .ref h_5, .ref h_6, .ref h_7, .ref h_8, .ref h_9, .ref h_10, .ref h_11, .ref h_12, .int h_13, .int h_14]))]) [0] rfl
    have hDc := hD.sub (ws' := [(h, .inr (11, [.ref h_0, .ref h_1, .ref h_2, .ref h_3, .ref h_4, .ref h_5, .ref h_6, .ref h_7, .ref h_8, .ref h_9, .ref h_10, .ref h_11, .ref h_12, .int h_13, .int h_14]))]) [0] (by decide) rfl
    have hFc := va_free (wc := [(h, .inr (11, [.ref h_0, .ref h_1, .ref h_2, .ref h_3, .ref h_4, .ref h_5, .ref h_6, .ref h_7, .ref h_8, .ref h_9, .ref h_10, .ref h_11, .ref h_12, .int h_13, .int h_14]))]) hD hS hA [0] rfl
    refine va_calli (va_runV (As := [.int 1]) (rest := []) ⟨hx, hb, hml, hown, hg⟩ (c_accept l D ct h 1 h_0 h_1 h_2 h_3 h_4 h_5 h_6 h_7 h_8 h_9 h_10 h_11 h_12 h_13 h_14 H.size ) (cwV 1 hg (gd_V wd_805 wd_807 wd_5 wd_107 wd_808) rfl rfl rfl (by decide +kernel) ⟨Nat.le_of_ble_eq_true rfl, Nat.le_of_ble_eq_true rfl⟩) (Wd_V hPc hKK hDc (va_recv hK hPc (ci := 11) (q0 := 0) rfl rfl)) rfl rfl hl.1 rfl (lv_room (Nat.le_of_ble_eq_true rfl)) dX11_vote_88 ⟨Nat.le_of_ble_eq_true rfl, Nat.le_of_ble_eq_true rfl⟩) hS (fun q _ h => hFc q h) hFc (fun r_7 u_7 t_7 H1 locs ht_7 hvm_7 hw_7 hB_7 hz_7 hk_7 hS => ?_)
    obtain ⟨hP, hD⟩ := va_join (wr := [(h_6, .inr (0, [.ref h_6_0, .ref h_6_1, .ref h_6_2, .ref h_6_3, .ref h_6_4, .ref h_6_5, .int 0, .int 1])), (h_6_5, .inl (ct 1, 12, .inl f_6))]) (w1 := []) hP hD [0] [1, 2] rfl rfl (by decide) (by decide) hk_7 hFc (fun k q h => by simp at h) ⟨fun i j p q h => by simp at h, fun k q h => by simp at h⟩
    generalize H1 = H at hP hS ⊢
    have hP : va_P D vwCl [(h_6, .inr (0, [.ref h_6_0, .ref h_6_1, .ref h_6_2, .ref h_6_3, .ref h_6_4, .ref h_6_5, .int 0, .int 1])), (h_6_5, .inl (ct 1, 12, .inl f_6))] H := hP
    have hD : va_D A [(h_6, .inr (0, [.ref h_6_0, .ref h_6_1, .ref h_6_2, .ref h_6_3, .ref h_6_4, .ref h_6_5, .int 0, .int 1])), (h_6_5, .inl (ct 1, 12, .inl f_6))] := hD
    subst hw_7
    exact W.iret (v := 1) hx hb hr (fun t ht hW => ⟨⟨1, (), rfl, (by simp [sp_vote, c_2]), trivial⟩, hS.F ht⟩) hS.2.2 dX11_vote_91
  · refine lv_aload_n hx hb dX11_vote_7 rfl (lv_at hl 0 rfl) ?_
    refine lv_iconst (v := (-1)) hx hb dX11_vote_8 (by decide) ?_
    have hPc := hP.sub (ws' := [(h, .inr (11, [.ref h_0, .ref h_1, .ref h_2, .ref h_3, .ref h_4, .ref h_5, .ref h_6, .ref h_7, .ref h_8, .ref h_9, .ref h_10, .ref h_11, .ref h_12, .int h_13, .int h_14]))]) [0] rfl
    have hDc := hD.sub (ws' := [(h, .inr (11, [.ref h_0, .ref h_1, .ref h_2, .ref h_3, .ref h_4, .ref h_5, .ref h_6, .ref h_7, .ref h_8, .ref h_9, .ref h_10, .ref h_11, .ref h_12, .int h_13, .int h_14]))]) [0] (by decide) rfl
    have hFc := va_free (wc := [(h, .inr (11, [.ref h_0, .ref h_1, .ref h_2, .ref h_3, .ref h_4, .ref h_5, .ref h_6, .ref h_7, .ref h_8, .ref h_9, .ref h_10, .ref h_11, .ref h_12, .int h_13, .int h_14]))]) hD hS hA [0] rfl
    refine va_calli (va_runV (As := [.int (-1)]) (rest := []) ⟨hx, hb, hml, hown, hg⟩ (c_refuse l D ct h (-1) h_0 h_1 h_2 h_3 h_4 h_5 h_6 h_7 h_8 h_9 h_10 h_11 h_12 h_13 h_14 s.heap.size ) (cwV 1 hg (gd_V wd_778 wd_780 wd_3 wd_107 wd_781) rfl rfl rfl (by decide +kernel) ⟨Nat.le_of_ble_eq_true rfl, Nat.le_of_ble_eq_true rfl⟩) (Wd_V hPc hKK hDc (va_recv hK hPc (ci := 11) (q0 := 0) rfl rfl)) rfl rfl hl.1 rfl (lv_room (Nat.le_of_ble_eq_true rfl)) dX11_vote_9 ⟨Nat.le_of_ble_eq_true rfl, Nat.le_of_ble_eq_true rfl⟩) hS (fun q _ h => hFc q h) hFc (fun r_8 u_8 t_8 H1 locs ht_8 hvm_8 hw_8 hB_8 hz_8 hk_8 hS => ?_)
    obtain ⟨hP, hD⟩ := va_join (wr := [(h_6, .inr (0, [.ref h_6_0, .ref h_6_1, .ref h_6_2, .ref h_6_3, .ref h_6_4, .ref h_6_5, .int 0, .int 0])), (h_6_5, .inl (ct 1, 12, .inl f))]) (w1 := []) hP hD [0] [1, 2] rfl rfl (by decide) (by decide) hk_8 hFc (fun k q h => by simp at h) ⟨fun i j p q h => by simp at h, fun k q h => by simp at h⟩
    generalize H1 = H at hP hS ⊢
    have hP : va_P D vwCl [(h_6, .inr (0, [.ref h_6_0, .ref h_6_1, .ref h_6_2, .ref h_6_3, .ref h_6_4, .ref h_6_5, .int 0, .int 0])), (h_6_5, .inl (ct 1, 12, .inl f))] H := hP
    have hD : va_D A [(h_6, .inr (0, [.ref h_6_0, .ref h_6_1, .ref h_6_2, .ref h_6_3, .ref h_6_4, .ref h_6_5, .int 0, .int 0])), (h_6_5, .inl (ct 1, 12, .inl f))] := hD
    subst hw_8
    exact W.iret (v := (-1)) hx hb hr (fun t ht hW => ⟨⟨(-1), (), rfl, (by simp [sp_vote, c_2]), trivial⟩, hS.F ht⟩) hS.2.2 dX11_vote_12
def sp_doors (a1 : Int32) (a2 : Int32) (a3 : Int32) (a4 : Int32) : Int32 := if bw a1 0 19 = 0 then (-1) else if bw a2 1 60 = 0 then (-1) else if bw a3 0 a2 = 0 then (-1) else if bw a4 0 a3 = 0 then (-1) else 0
theorem dX11_doors_0 : decode cX11_doors 0 = .ok (.iload_n 1, 1) := by decide +kernel
theorem dX11_doors_1 : decode cX11_doors 1 = .ok (.iconst 0, 1) := by decide +kernel
theorem dX11_doors_2 : decode cX11_doors 2 = .ok (.bipush 19, 2) := by decide +kernel
theorem dX11_doors_4 : decode cX11_doors 4 = .ok (.invokestatic 150, 3) := by decide +kernel
theorem dX11_doors_7 : decode cX11_doors 7 = .ok (.ifCond .eq 32, 3) := by decide +kernel
theorem dX11_doors_39 : decode cX11_doors 39 = .ok (.aload_n 0, 1) := by decide +kernel
theorem dX11_doors_40 : decode cX11_doors 40 = .ok (.iconst (-1), 1) := by decide +kernel
theorem dX11_doors_41 : decode cX11_doors 41 = .ok (.invokevirtual 118, 3) := by decide +kernel
theorem dX11_doors_44 : decode cX11_doors 44 = .ok (.ireturn, 1) := by decide +kernel
theorem dX11_doors_10 : decode cX11_doors 10 = .ok (.iload_n 2, 1) := by decide +kernel
theorem dX11_doors_11 : decode cX11_doors 11 = .ok (.iconst 1, 1) := by decide +kernel
theorem dX11_doors_12 : decode cX11_doors 12 = .ok (.bipush 60, 2) := by decide +kernel
theorem dX11_doors_14 : decode cX11_doors 14 = .ok (.invokestatic 150, 3) := by decide +kernel
theorem dX11_doors_17 : decode cX11_doors 17 = .ok (.ifCond .eq 22, 3) := by decide +kernel
theorem dX11_doors_20 : decode cX11_doors 20 = .ok (.iload_n 3, 1) := by decide +kernel
theorem dX11_doors_21 : decode cX11_doors 21 = .ok (.iconst 0, 1) := by decide +kernel
theorem dX11_doors_22 : decode cX11_doors 22 = .ok (.iload_n 2, 1) := by decide +kernel
theorem dX11_doors_23 : decode cX11_doors 23 = .ok (.invokestatic 150, 3) := by decide +kernel
theorem dX11_doors_26 : decode cX11_doors 26 = .ok (.ifCond .eq 13, 3) := by decide +kernel
theorem dX11_doors_29 : decode cX11_doors 29 = .ok (.iload 4, 2) := by decide +kernel
theorem dX11_doors_31 : decode cX11_doors 31 = .ok (.iconst 0, 1) := by decide +kernel
theorem dX11_doors_32 : decode cX11_doors 32 = .ok (.iload_n 3, 1) := by decide +kernel
theorem dX11_doors_33 : decode cX11_doors 33 = .ok (.invokestatic 150, 3) := by decide +kernel
theorem dX11_doors_36 : decode cX11_doors 36 = .ok (.ifCond .ne 9, 3) := by decide +kernel
theorem dX11_doors_45 : decode cX11_doors 45 = .ok (.aload_n 0, 1) := by decide +kernel
theorem dX11_doors_46 : decode cX11_doors 46 = .ok (.getfield 89, 3) := by decide +kernel
theorem wd_694 : (Cond.fieldLink "VoteRoll" 89 "VoteRoll" "draws" "LVoteRoll$Draws;") ∈ gl := gl_at 694 (by decide +kernel) (by decide +kernel)
theorem dX11_doors_49 : decode cX11_doors 49 = .ok (.getfield 363, 3) := by decide +kernel
theorem wd_600 : (Cond.fieldLink "VoteRoll" 363 "VoteRoll$Draws" "doors" "[I") ∈ gl := gl_at 600 (by decide +kernel) (by decide +kernel)
theorem dX11_doors_52 : decode cX11_doors 52 = .ok (.iload_n 1, 1) := by decide +kernel
theorem dX11_doors_53 : decode cX11_doors 53 = .ok (.iload_n 2, 1) := by decide +kernel
theorem dX11_doors_54 : decode cX11_doors 54 = .ok (.iastore, 1) := by decide +kernel
theorem dX11_doors_55 : decode cX11_doors 55 = .ok (.aload_n 0, 1) := by decide +kernel
theorem dX11_doors_56 : decode cX11_doors 56 = .ok (.getfield 89, 3) := by decide +kernel
theorem dX11_doors_59 : decode cX11_doors 59 = .ok (.getfield 366, 3) := by decide +kernel
theorem wd_602 : (Cond.fieldLink "VoteRoll" 366 "VoteRoll$Draws" "drawn" "[I") ∈ gl := gl_at 602 (by decide +kernel) (by decide +kernel)
theorem dX11_doors_62 : decode cX11_doors 62 = .ok (.iload_n 1, 1) := by decide +kernel
theorem dX11_doors_63 : decode cX11_doors 63 = .ok (.iload_n 3, 1) := by decide +kernel
theorem dX11_doors_64 : decode cX11_doors 64 = .ok (.iastore, 1) := by decide +kernel
theorem dX11_doors_65 : decode cX11_doors 65 = .ok (.aload_n 0, 1) := by decide +kernel
theorem dX11_doors_66 : decode cX11_doors 66 = .ok (.getfield 89, 3) := by decide +kernel
theorem dX11_doors_69 : decode cX11_doors 69 = .ok (.getfield 369, 3) := by decide +kernel
theorem wd_604 : (Cond.fieldLink "VoteRoll" 369 "VoteRoll$Draws" "lacking" "[I") ∈ gl := gl_at 604 (by decide +kernel) (by decide +kernel)
theorem dX11_doors_72 : decode cX11_doors 72 = .ok (.iload_n 1, 1) := by decide +kernel
theorem dX11_doors_73 : decode cX11_doors 73 = .ok (.iload 4, 2) := by decide +kernel
theorem dX11_doors_75 : decode cX11_doors 75 = .ok (.iastore, 1) := by decide +kernel
theorem dX11_doors_76 : decode cX11_doors 76 = .ok (.aload_n 0, 1) := by decide +kernel
theorem dX11_doors_77 : decode cX11_doors 77 = .ok (.iconst 0, 1) := by decide +kernel
theorem dX11_doors_78 : decode cX11_doors 78 = .ok (.invokevirtual 140, 3) := by decide +kernel
theorem dX11_doors_81 : decode cX11_doors 81 = .ok (.ireturn, 1) := by decide +kernel
set_option maxHeartbeats 4000000 in
set_option maxRecDepth 100000 in
theorem c_doors (l : Launch) (D : va_G) (ct : Nat → ClassId) (h : Nat) (a1 : Int32) (a2 : Int32) (a3 : Int32) (a4 : Int32) (h_0 : Nat) (h_1 : Nat) (h_2 : Nat) (h_3 : Nat) (h_4 : Nat) (h_5 : Nat) (h_6 : Nat) (h_7 : Nat) (h_8 : Nat) (h_9 : Nat) (h_10 : Nat) (h_11 : Nat) (h_12 : Nat) (h_13 : Int32) (h_14 : Int32) (h_11_0 : Nat) (h_11_1 : Nat) (h_11_2 : Nat) (h_11_3 : Nat) (h_11_4 : Nat) (h_11_5 : Int64) (h_11_6 : Int64) (f : Nat → Int32) (g : Nat → Int32) (k : Nat → Int32) (sz : Nat)  : Met l yX11_doors (wk yX11_doors cX11_doors 5 (some .int)) { frames := 1, cells := 0, slots := 0, locals := 22 } (va_Pc [.ref h, .int a1, .int a2, .int a3, .int a4] (Wd D [(h, .inr (11, [.ref h_0, .ref h_1, .ref h_2, .ref h_3, .ref h_4, .ref h_5, .ref h_6, .ref h_7, .ref h_8, .ref h_9, .ref h_10, .ref h_11, .ref h_12, .int h_13, .int h_14])), (h_11, .inr (2, [.ref h_11_0, .ref h_11_1, .ref h_11_2, .ref h_11_3, .ref h_11_4, .long h_11_5, .long h_11_6])), (h_11_0, .inl (ct 1, 20, .inl f)), (h_11_1, .inl (ct 1, 20, .inl g)), (h_11_2, .inl (ct 1, 20, .inl k))] ct sz)) (va_Qi (fun (r : Int32) (u : Unit) => r = sp_doors a1 a2 a3 a4) (fun _ _ => True) (va_A [(h, .inr (11, [.ref h_0, .ref h_1, .ref h_2, .ref h_3, .ref h_4, .ref h_5, .ref h_6, .ref h_7, .ref h_8, .ref h_9, .ref h_10, .ref h_11, .ref h_12, .int h_13, .int h_14])), (h_11, .inr (2, [.ref h_11_0, .ref h_11_1, .ref h_11_2, .ref h_11_3, .ref h_11_4, .long h_11_5, .long h_11_6])), (h_11_0, .inl (ct 1, 20, .inl f)), (h_11_1, .inl (ct 1, 20, .inl g)), (h_11_2, .inl (ct 1, 20, .inl k))] sz)) 0 0 (va_A [(h, .inr (11, [.ref h_0, .ref h_1, .ref h_2, .ref h_3, .ref h_4, .ref h_5, .ref h_6, .ref h_7, .ref h_8, .ref h_9, .ref h_10, .ref h_11, .ref h_12, .int h_13, .int h_14])), (h_11, .inr (2, [.ref h_11_0, .ref h_11_1, .ref h_11_2, .ref h_11_3, .ref h_11_4, .long h_11_5, .long h_11_6])), (h_11_0, .inl (ct 1, 20, .inl f)), (h_11_1, .inl (ct 1, 20, .inl g)), (h_11_2, .inl (ct 1, 20, .inl k))] sz) := by
  refine Met.ofW (cc := cX11_doors) (maxL := 5) (ret := (some .int)) (by decide) rfl ?_
  intro p e s m args below meth c s₁ B hml hv
  obtain ⟨rfl, hsz, hP, hKK, hD0⟩ := hv
  have hK := hKK.1
  have hx := B.exec
  have hb := B.bytes
  have hr := B.returns
  have hg : ∀ w ∈ gl, w.before _ s = true := fun w h => atoms_spec (ws := wk yX11_doors cX11_doors 5 (some .int)) B.pre w (List.mem_cons_of_mem _ h)
  have hown : s.vm.findClass RX11 = some m.cls := findClass_of_methodNamed B.named
  have hlocks := B.notSynchronized
  subst hsz
  have hD := hD0.self (sz := s.heap.size)
  generalize hAe : va_A [(h, .inr (11, [.ref h_0, .ref h_1, .ref h_2, .ref h_3, .ref h_4, .ref h_5, .ref h_6, .ref h_7, .ref h_8, .ref h_9, .ref h_10, .ref h_11, .ref h_12, .int h_13, .int h_14])), (h_11, .inr (2, [.ref h_11_0, .ref h_11_1, .ref h_11_2, .ref h_11_3, .ref h_11_4, .long h_11_5, .long h_11_6])), (h_11_0, .inl (ct 1, 20, .inl f)), (h_11_1, .inl (ct 1, 20, .inl g)), (h_11_2, .inl (ct 1, 20, .inl k))] s.heap.size = A at hD ⊢
  have hA : ∀ q : Nat, s.heap.size ≤ q → A q := fun q h => by rw [← hAe]; exact Or.inr h
  have hS : va_S A s.heap s.heap [] := va_S.rf
  have hl := lv_entry ([.ref h, .int a1, .int a2, .int a3, .int a4]) (n := 5) (Nat.le_of_ble_eq_true rfl)
  rw [lg_entry_eq]
  generalize (lg_sl ([.ref h, .int a1, .int a2, .int a3, .int a4]) ++ List.replicate (5 - (lg_sl ([.ref h, .int a1, .int a2, .int a3, .int a4])).length) Slot.unset).toArray = ls at hl ⊢
  have hl : lv_has ls 5 [(0, .ref h), (1, .int a1), (2, .int a2), (3, .int a3), (4, .int a4)] := hl
  refine lv_iload_n hx hb dX11_doors_0 rfl (lv_at hl 1 rfl) ?_
  refine lv_iconst (v := 0) hx hb dX11_doors_1 (by decide) ?_
  refine lv_bipush (v := 19) hx hb dX11_doors_2 (by decide) ?_
  have hPc := hP.sub (ws' := []) [] rfl
  refine z_calli (va_runS (As := [.int a1, .int 0, .int 19]) (rest := []) ⟨hx, hb, hml, hown, hg⟩ (c_within l D ct a1 0 19 ) (va_cwS 3 hg (gd_S wd_959 wd_917 wd_107 wd_918) rfl rfl rfl (by decide +kernel) ⟨Nat.le_of_ble_eq_true rfl, Nat.le_of_ble_eq_true rfl⟩) (Wr_S hPc hKK) rfl rfl hl.1 rfl (lv_room (Nat.le_of_ble_eq_true rfl)) dX11_doors_4 ⟨Nat.le_of_ble_eq_true rfl, Nat.le_of_ble_eq_true rfl⟩) (fun r_1 hw_1 => ?_)
  subst hw_1
  refine lv_if_eq (tgt := 39) hx hb dX11_doors_7 (by decide) (fun c_2 => ?_) (fun c_2 => ?_)
  · refine lv_aload_n hx hb dX11_doors_39 rfl (lv_at hl 0 rfl) ?_
    refine lv_iconst (v := (-1)) hx hb dX11_doors_40 (by decide) ?_
    have hPc := hP.sub (ws' := [(h, .inr (11, [.ref h_0, .ref h_1, .ref h_2, .ref h_3, .ref h_4, .ref h_5, .ref h_6, .ref h_7, .ref h_8, .ref h_9, .ref h_10, .ref h_11, .ref h_12, .int h_13, .int h_14]))]) [0] rfl
    have hDc := hD.sub (ws' := [(h, .inr (11, [.ref h_0, .ref h_1, .ref h_2, .ref h_3, .ref h_4, .ref h_5, .ref h_6, .ref h_7, .ref h_8, .ref h_9, .ref h_10, .ref h_11, .ref h_12, .int h_13, .int h_14]))]) [0] (by decide) rfl
    have hFc := va_free (wc := [(h, .inr (11, [.ref h_0, .ref h_1, .ref h_2, .ref h_3, .ref h_4, .ref h_5, .ref h_6, .ref h_7, .ref h_8, .ref h_9, .ref h_10, .ref h_11, .ref h_12, .int h_13, .int h_14]))]) hD hS hA [0] rfl
    refine va_calli (va_runV (As := [.int (-1)]) (rest := []) ⟨hx, hb, hml, hown, hg⟩ (c_refuse l D ct h (-1) h_0 h_1 h_2 h_3 h_4 h_5 h_6 h_7 h_8 h_9 h_10 h_11 h_12 h_13 h_14 s.heap.size ) (cwV 1 hg (gd_V wd_778 wd_780 wd_3 wd_107 wd_781) rfl rfl rfl (by decide +kernel) ⟨Nat.le_of_ble_eq_true rfl, Nat.le_of_ble_eq_true rfl⟩) (Wd_V hPc hKK hDc (va_recv hK hPc (ci := 11) (q0 := 0) rfl rfl)) rfl rfl hl.1 rfl (lv_room (Nat.le_of_ble_eq_true rfl)) dX11_doors_41 ⟨Nat.le_of_ble_eq_true rfl, Nat.le_of_ble_eq_true rfl⟩) hS (fun q _ h => hFc q h) hFc (fun r_3 u_3 t_3 H1 locs ht_3 hvm_3 hw_3 hB_3 hz_3 hk_3 hS => ?_)
    obtain ⟨hP, hD⟩ := va_join (wr := [(h_11, .inr (2, [.ref h_11_0, .ref h_11_1, .ref h_11_2, .ref h_11_3, .ref h_11_4, .long h_11_5, .long h_11_6])), (h_11_0, .inl (ct 1, 20, .inl f)), (h_11_1, .inl (ct 1, 20, .inl g)), (h_11_2, .inl (ct 1, 20, .inl k))]) (w1 := []) hP hD [0] [1, 2, 3, 4] rfl rfl (by decide) (by decide) hk_3 hFc (fun k q h => by simp at h) ⟨fun i j p q h => by simp at h, fun k q h => by simp at h⟩
    generalize H1 = H at hP hS ⊢
    have hP : va_P D vwCl [(h_11, .inr (2, [.ref h_11_0, .ref h_11_1, .ref h_11_2, .ref h_11_3, .ref h_11_4, .long h_11_5, .long h_11_6])), (h_11_0, .inl (ct 1, 20, .inl f)), (h_11_1, .inl (ct 1, 20, .inl g)), (h_11_2, .inl (ct 1, 20, .inl k))] H := hP
    have hD : va_D A [(h_11, .inr (2, [.ref h_11_0, .ref h_11_1, .ref h_11_2, .ref h_11_3, .ref h_11_4, .long h_11_5, .long h_11_6])), (h_11_0, .inl (ct 1, 20, .inl f)), (h_11_1, .inl (ct 1, 20, .inl g)), (h_11_2, .inl (ct 1, 20, .inl k))] := hD
    subst hw_3
    exact W.iret (v := (-1)) hx hb hr (fun t ht hW => ⟨⟨(-1), (), rfl, (by simp [sp_doors, c_2]), trivial⟩, hS.F ht⟩) hS.2.2 dX11_doors_44
  · refine lv_iload_n hx hb dX11_doors_10 rfl (lv_at hl 2 rfl) ?_
    refine lv_iconst (v := 1) hx hb dX11_doors_11 (by decide) ?_
    refine lv_bipush (v := 60) hx hb dX11_doors_12 (by decide) ?_
    have hPc := hP.sub (ws' := []) [] rfl
    refine z_calli (va_runS (As := [.int a2, .int 1, .int 60]) (rest := []) ⟨hx, hb, hml, hown, hg⟩ (c_within l D ct a2 1 60 ) (va_cwS 3 hg (gd_S wd_959 wd_917 wd_107 wd_918) rfl rfl rfl (by decide +kernel) ⟨Nat.le_of_ble_eq_true rfl, Nat.le_of_ble_eq_true rfl⟩) (Wr_S hPc hKK) rfl rfl hl.1 rfl (lv_room (Nat.le_of_ble_eq_true rfl)) dX11_doors_14 ⟨Nat.le_of_ble_eq_true rfl, Nat.le_of_ble_eq_true rfl⟩) (fun r_4 hw_4 => ?_)
    subst hw_4
    refine lv_if_eq (tgt := 39) hx hb dX11_doors_17 (by decide) (fun c_5 => ?_) (fun c_5 => ?_)
    · refine lv_aload_n hx hb dX11_doors_39 rfl (lv_at hl 0 rfl) ?_
      refine lv_iconst (v := (-1)) hx hb dX11_doors_40 (by decide) ?_
      have hPc := hP.sub (ws' := [(h, .inr (11, [.ref h_0, .ref h_1, .ref h_2, .ref h_3, .ref h_4, .ref h_5, .ref h_6, .ref h_7, .ref h_8, .ref h_9, .ref h_10, .ref h_11, .ref h_12, .int h_13, .int h_14]))]) [0] rfl
      have hDc := hD.sub (ws' := [(h, .inr (11, [.ref h_0, .ref h_1, .ref h_2, .ref h_3, .ref h_4, .ref h_5, .ref h_6, .ref h_7, .ref h_8, .ref h_9, .ref h_10, .ref h_11, .ref h_12, .int h_13, .int h_14]))]) [0] (by decide) rfl
      have hFc := va_free (wc := [(h, .inr (11, [.ref h_0, .ref h_1, .ref h_2, .ref h_3, .ref h_4, .ref h_5, .ref h_6, .ref h_7, .ref h_8, .ref h_9, .ref h_10, .ref h_11, .ref h_12, .int h_13, .int h_14]))]) hD hS hA [0] rfl
      refine va_calli (va_runV (As := [.int (-1)]) (rest := []) ⟨hx, hb, hml, hown, hg⟩ (c_refuse l D ct h (-1) h_0 h_1 h_2 h_3 h_4 h_5 h_6 h_7 h_8 h_9 h_10 h_11 h_12 h_13 h_14 s.heap.size ) (cwV 1 hg (gd_V wd_778 wd_780 wd_3 wd_107 wd_781) rfl rfl rfl (by decide +kernel) ⟨Nat.le_of_ble_eq_true rfl, Nat.le_of_ble_eq_true rfl⟩) (Wd_V hPc hKK hDc (va_recv hK hPc (ci := 11) (q0 := 0) rfl rfl)) rfl rfl hl.1 rfl (lv_room (Nat.le_of_ble_eq_true rfl)) dX11_doors_41 ⟨Nat.le_of_ble_eq_true rfl, Nat.le_of_ble_eq_true rfl⟩) hS (fun q _ h => hFc q h) hFc (fun r_6 u_6 t_6 H1 locs ht_6 hvm_6 hw_6 hB_6 hz_6 hk_6 hS => ?_)
      obtain ⟨hP, hD⟩ := va_join (wr := [(h_11, .inr (2, [.ref h_11_0, .ref h_11_1, .ref h_11_2, .ref h_11_3, .ref h_11_4, .long h_11_5, .long h_11_6])), (h_11_0, .inl (ct 1, 20, .inl f)), (h_11_1, .inl (ct 1, 20, .inl g)), (h_11_2, .inl (ct 1, 20, .inl k))]) (w1 := []) hP hD [0] [1, 2, 3, 4] rfl rfl (by decide) (by decide) hk_6 hFc (fun k q h => by simp at h) ⟨fun i j p q h => by simp at h, fun k q h => by simp at h⟩
      generalize H1 = H at hP hS ⊢
      have hP : va_P D vwCl [(h_11, .inr (2, [.ref h_11_0, .ref h_11_1, .ref h_11_2, .ref h_11_3, .ref h_11_4, .long h_11_5, .long h_11_6])), (h_11_0, .inl (ct 1, 20, .inl f)), (h_11_1, .inl (ct 1, 20, .inl g)), (h_11_2, .inl (ct 1, 20, .inl k))] H := hP
      have hD : va_D A [(h_11, .inr (2, [.ref h_11_0, .ref h_11_1, .ref h_11_2, .ref h_11_3, .ref h_11_4, .long h_11_5, .long h_11_6])), (h_11_0, .inl (ct 1, 20, .inl f)), (h_11_1, .inl (ct 1, 20, .inl g)), (h_11_2, .inl (ct 1, 20, .inl k))] := hD
      subst hw_6
      exact W.iret (v := (-1)) hx hb hr (fun t ht hW => ⟨⟨(-1), (), rfl, (by simp [sp_doors, c_2, c_5]), trivial⟩, hS.F ht⟩) hS.2.2 dX11_doors_44
    · refine lv_iload_n hx hb dX11_doors_20 rfl (lv_at hl 3 rfl) ?_
      refine lv_iconst (v := 0) hx hb dX11_doors_21 (by decide) ?_
      refine lv_iload_n hx hb dX11_doors_22 rfl (lv_at hl 2 rfl) ?_
      have hPc := hP.sub (ws' := []) [] rfl
      refine z_calli (va_runS (As := [.int a3, .int 0, .int a2]) (rest := []) ⟨hx, hb, hml, hown, hg⟩ (c_within l D ct a3 0 a2 ) (va_cwS 3 hg (gd_S wd_959 wd_917 wd_107 wd_918) rfl rfl rfl (by decide +kernel) ⟨Nat.le_of_ble_eq_true rfl, Nat.le_of_ble_eq_true rfl⟩) (Wr_S hPc hKK) rfl rfl hl.1 rfl (lv_room (Nat.le_of_ble_eq_true rfl)) dX11_doors_23 ⟨Nat.le_of_ble_eq_true rfl, Nat.le_of_ble_eq_true rfl⟩) (fun r_7 hw_7 => ?_)
      subst hw_7
      refine lv_if_eq (tgt := 39) hx hb dX11_doors_26 (by decide) (fun c_8 => ?_) (fun c_8 => ?_)
      · refine lv_aload_n hx hb dX11_doors_39 rfl (lv_at hl 0 rfl) ?_
        refine lv_iconst (v := (-1)) hx hb dX11_doors_40 (by decide) ?_
        have hPc := hP.sub (ws' := [(h, .inr (11, [.ref h_0, .ref h_1, .ref h_2, .ref h_3, .ref h_4, .ref h_5, .ref h_6, .ref h_7, .ref h_8, .ref h_9, .ref h_10, .ref h_11, .ref h_12, .int h_13, .int h_14]))]) [0] rfl
        have hDc := hD.sub (ws' := [(h, .inr (11, [.ref h_0, .ref h_1, .ref h_2, .ref h_3, .ref h_4, .ref h_5, .ref h_6, .ref h_7, .ref h_8, .ref h_9, .ref h_10, .ref h_11, .ref h_12, .int h_13, .int h_14]))]) [0] (by decide) rfl
        have hFc := va_free (wc := [(h, .inr (11, [.ref h_0, .ref h_1, .ref h_2, .ref h_3, .ref h_4, .ref h_5, .ref h_6, .ref h_7, .ref h_8, .ref h_9, .ref h_10, .ref h_11, .ref h_12, .int h_13, .int h_14]))]) hD hS hA [0] rfl
        refine va_calli (va_runV (As := [.int (-1)]) (rest := []) ⟨hx, hb, hml, hown, hg⟩ (c_refuse l D ct h (-1) h_0 h_1 h_2 h_3 h_4 h_5 h_6 h_7 h_8 h_9 h_10 h_11 h_12 h_13 h_14 s.heap.size ) (cwV 1 hg (gd_V wd_778 wd_780 wd_3 wd_107 wd_781) rfl rfl rfl (by decide +kernel) ⟨Nat.le_of_ble_eq_true rfl, Nat.le_of_ble_eq_true rfl⟩) (Wd_V hPc hKK hDc (va_recv hK hPc (ci := 11) (q0 := 0) rfl rfl)) rfl rfl hl.1 rfl (lv_room (Nat.le_of_ble_eq_true rfl)) dX11_doors_41 ⟨Nat.le_of_ble_eq_true rfl, Nat.le_of_ble_eq_true rfl⟩) hS (fun q _ h => hFc q h) hFc (fun r_9 u_9 t_9 H1 locs ht_9 hvm_9 hw_9 hB_9 hz_9 hk_9 hS => ?_)
        obtain ⟨hP, hD⟩ := va_join (wr := [(h_11, .inr (2, [.ref h_11_0, .ref h_11_1, .ref h_11_2, .ref h_11_3, .ref h_11_4, .long h_11_5, .long h_11_6])), (h_11_0, .inl (ct 1, 20, .inl f)), (h_11_1, .inl (ct 1, 20, .inl g)), (h_11_2, .inl (ct 1, 20, .inl k))]) (w1 := []) hP hD [0] [1, 2, 3, 4] rfl rfl (by decide) (by decide) hk_9 hFc (fun k q h => by simp at h) ⟨fun i j p q h => by simp at h, fun k q h => by simp at h⟩
        generalize H1 = H at hP hS ⊢
        have hP : va_P D vwCl [(h_11, .inr (2, [.ref h_11_0, .ref h_11_1, .ref h_11_2, .ref h_11_3, .ref h_11_4, .long h_11_5, .long h_11_6])), (h_11_0, .inl (ct 1, 20, .inl f)), (h_11_1, .inl (ct 1, 20, .inl g)), (h_11_2, .inl (ct 1, 20, .inl k))] H := hP
        have hD : va_D A [(h_11, .inr (2, [.ref h_11_0, .ref h_11_1, .ref h_11_2, .ref h_11_3, .ref h_11_4, .long h_11_5, .long h_11_6])), (h_11_0, .inl (ct 1, 20, .inl f)), (h_11_1, .inl (ct 1, 20, .inl g)), (h_11_2, .inl (ct 1, 20, .inl k))] := hD
        subst hw_9
        exact W.iret (v := (-1)) hx hb hr (fun t ht hW => ⟨⟨(-1), (), rfl, (by simp [sp_doors, c_2, c_5, c_8]), trivial⟩, hS.F ht⟩) hS.2.2 dX11_doors_44
      · refine lv_iload hx hb dX11_doors_29 (lv_at hl 4 rfl) ?_
        refine lv_iconst (v := 0) hx hb dX11_doors_31 (by decide) ?_
        refine lv_iload_n hx hb dX11_doors_32 rfl (lv_at hl 3 rfl) ?_
        have hPc := hP.sub (ws' := []) [] rfl
        refine z_calli (va_runS (As := [.int a4, .int 0, .int a3]) (rest := []) ⟨hx, hb, hml, hown, hg⟩ (c_within l D ct a4 0 a3 ) (va_cwS 3 hg (gd_S wd_959 wd_917 wd_107 wd_918) rfl rfl rfl (by decide +kernel) ⟨Nat.le_of_ble_eq_true rfl, Nat.le_of_ble_eq_true rfl⟩) (Wr_S hPc hKK) rfl rfl hl.1 rfl (lv_room (Nat.le_of_ble_eq_true rfl)) dX11_doors_33 ⟨Nat.le_of_ble_eq_true rfl, Nat.le_of_ble_eq_true rfl⟩) (fun r_10 hw_10 => ?_)
        subst hw_10
        refine lv_if_ne (tgt := 45) hx hb dX11_doors_36 (by decide) (fun c_11 => ?_) (fun c_11 => ?_)
        · refine lv_aload_n hx hb dX11_doors_45 rfl (lv_at hl 0 rfl) ?_
          refine va_get (D := D) (ci := 11) (v := .ref h_11) (C := RX11) (T := TX11) (N := 15) hx hb hg inX11 hown hK hP 0 rfl rfl 11 (by decide) (hg _ wd_694) (fun _ h9 => h9) rfl dX11_doors_46 ?_
          refine va_get (D := D) (ci := 2) (v := .ref h_11_0) (C := RX2) (T := TX2) (N := 7) hx hb hg inX2 hown hK hP 1 rfl rfl 0 (by decide) (hg _ wd_600) (fun _ h9 => h9) rfl dX11_doors_49 ?_
          refine lv_iload_n hx hb dX11_doors_52 rfl (lv_at hl 1 rfl) ?_
          refine lv_iload_n hx hb dX11_doors_53 rfl (lv_at hl 2 rfl) ?_
          refine va_iast hx hb hK hP hD hS 2 1 rfl rfl (bw_in (by assumption) (by decide)) dX11_doors_54 (fun H locs hP hD hS => ?_)
          obtain ⟨f_12, ef_12⟩ : ∃ z : Nat → Int32, z = upd f a1.toNatClampNeg a2 := ⟨_, rfl⟩
          have hP : va_P D vwCl [(h, .inr (11, [.ref h_0, .ref h_1, .ref h_2, .ref h_3, .ref h_4, .ref h_5, .ref h_6, .ref h_7, .ref h_8, .ref h_9, .ref h_10, .ref h_11, .ref h_12, .int h_13, .int h_14])), (h_11, .inr (2, [.ref h_11_0, .ref h_11_1, .ref h_11_2, .ref h_11_3, .ref h_11_4, .long h_11_5, .long h_11_6])), (h_11_0, .inl (ct 1, 20, .inl f_12)), (h_11_1, .inl (ct 1, 20, .inl g)), (h_11_2, .inl (ct 1, 20, .inl k))] H := by rw [ef_12]; exact hP
          have hD : va_D A [(h, .inr (11, [.ref h_0, .ref h_1, .ref h_2, .ref h_3, .ref h_4, .ref h_5, .ref h_6, .ref h_7, .ref h_8, .ref h_9, .ref h_10, .ref h_11, .ref h_12, .int h_13, .int h_14])), (h_11, .inr (2, [.ref h_11_0, .ref h_11_1, .ref h_11_2, .ref h_11_3, .ref h_11_4, .long h_11_5, .long h_11_6])), (h_11_0, .inl (ct 1, 20, .inl f_12)), (h_11_1, .inl (ct 1, 20, .inl g)), (h_11_2, .inl (ct 1, 20, .inl k))] := by rw [ef_12]; exact hD
          refine lv_aload_n hx hb dX11_doors_55 rfl (lv_at hl 0 rfl) ?_
          refine va_get (D := D) (ci := 11) (v := .ref h_11) (C := RX11) (T := TX11) (N := 15) hx hb hg inX11 hown hK hP 0 rfl rfl 11 (by decide) (hg _ wd_694) (fun _ h9 => h9) rfl dX11_doors_56 ?_
          refine va_get (D := D) (ci := 2) (v := .ref h_11_1) (C := RX2) (T := TX2) (N := 7) hx hb hg inX2 hown hK hP 1 rfl rfl 1 (by decide) (hg _ wd_602) (fun _ h9 => h9) rfl dX11_doors_59 ?_
          refine lv_iload_n hx hb dX11_doors_62 rfl (lv_at hl 1 rfl) ?_
          refine lv_iload_n hx hb dX11_doors_63 rfl (lv_at hl 3 rfl) ?_
          refine va_iast hx hb hK hP hD hS 3 1 rfl rfl (bw_in (by assumption) (by decide)) dX11_doors_64 (fun H locs hP hD hS => ?_)
          obtain ⟨f_13, ef_13⟩ : ∃ z : Nat → Int32, z = upd g a1.toNatClampNeg a3 := ⟨_, rfl⟩
          have hP : va_P D vwCl [(h, .inr (11, [.ref h_0, .ref h_1, .ref h_2, .ref h_3, .ref h_4, .ref h_5, .ref h_6, .ref h_7, .ref h_8, .ref h_9, .ref h_10, .ref h_11, .ref h_12, .int h_13, .int h_14])), (h_11, .inr (2, [.ref h_11_0, .ref h_11_1, .ref h_11_2, .ref h_11_3, .ref h_11_4, .long h_11_5, .long h_11_6])), (h_11_0, .inl (ct 1, 20, .inl f_12)), (h_11_1, .inl (ct 1, 20, .inl f_13)), (h_11_2, .inl (ct 1, 20, .inl k))] H := by rw [ef_13]; exact hP
          have hD : va_D A [(h, .inr (11, [.ref h_0, .ref h_1, .ref h_2, .ref h_3, .ref h_4, .ref h_5, .ref h_6, .ref h_7, .ref h_8, .ref h_9, .ref h_10, .ref h_11, .ref h_12, .int h_13, .int h_14])), (h_11, .inr (2, [.ref h_11_0, .ref h_11_1, .ref h_11_2, .ref h_11_3, .ref h_11_4, .long h_11_5, .long h_11_6])), (h_11_0, .inl (ct 1, 20, .inl f_12)), (h_11_1, .inl (ct 1, 20, .inl f_13)), (h_11_2, .inl (ct 1, 20, .inl k))] := by rw [ef_13]; exact hD
          refine lv_aload_n hx hb dX11_doors_65 rfl (lv_at hl 0 rfl) ?_
          refine va_get (D := D) (ci := 11) (v := .ref h_11) (C := RX11) (T := TX11) (N := 15) hx hb hg inX11 hown hK hP 0 rfl rfl 11 (by decide) (hg _ wd_694) (fun _ h9 => h9) rfl dX11_doors_66 ?_
          refine va_get (D := D) (ci := 2) (v := .ref h_11_2) (C := RX2) (T := TX2) (N := 7) hx hb hg inX2 hown hK hP 1 rfl rfl 2 (by decide) (hg _ wd_604) (fun _ h9 => h9) rfl dX11_doors_69 ?_
          refine lv_iload_n hx hb dX11_doors_72 rfl (lv_at hl 1 rfl) ?_
          refine lv_iload hx hb dX11_doors_73 (lv_at hl 4 rfl) ?_
          refine va_iast hx hb hK hP hD hS 4 1 rfl rfl (bw_in (by assumption) (by decide)) dX11_doors_75 (fun H locs hP hD hS => ?_)
          obtain ⟨f_14, ef_14⟩ : ∃ z : Nat → Int32, z = upd k a1.toNatClampNeg a4 := ⟨_, rfl⟩
          have hP : va_P D vwCl [(h, .inr (11, [.ref h_0, .ref h_1, .ref h_2, .ref h_3, .ref h_4, .ref h_5, .ref h_6, .ref h_7, .ref h_8, .ref h_9, .ref h_10, .ref h_11, .ref h_12, .int h_13, .int h_14])), (h_11, .inr (2, [.ref h_11_0, .ref h_11_1, .ref h_11_2, .ref h_11_3, .ref h_11_4, .long h_11_5, .long h_11_6])), (h_11_0, .inl (ct 1, 20, .inl f_12)), (h_11_1, .inl (ct 1, 20, .inl f_13)), (h_11_2, .inl (ct 1, 20, .inl f_14))] H := by rw [ef_14]; exact hP
          have hD : va_D A [(h, .inr (11, [.ref h_0, .ref h_1, .ref h_2, .ref h_3, .ref h_4, .ref h_5, .ref h_6, .ref h_7, .ref h_8, .ref h_9, .ref h_10, .ref h_11, .ref h_12, .int h_13, .int h_14])), (h_11, .inr (2, [.ref h_11_0, .ref h_11_1, .ref h_11_2, .ref h_11_3, .ref h_11_4, .long h_11_5, .long h_11_6])), (h_11_0, .inl (ct 1, 20, .inl f_12)), (h_11_1, .inl (ct 1, 20, .inl f_13)), (h_11_2, .inl (ct 1, 20, .inl f_14))] := by rw [ef_14]; exact hD
          refine lv_aload_n hx hb dX11_doors_76 rfl (lv_at hl 0 rfl) ?_
          refine lv_iconst (v := 0) hx hb dX11_doors_77 (by decide) ?_
          have hPc := hP.sub (ws' := [(h, .inr (11, [.ref h_0, .ref h_1, .ref h_2, .ref h_3, .ref h_4, .ref h_5, .ref h_6, .ref h_7, .ref h_8, .ref h_9, .ref h_10, .ref h_11, .ref h_12, .int h_13, .int h_14]))]) [0] rfl
          have hDc := hD.sub (ws' := [(h, .inr (11, [.ref h_0, .ref h_1, .ref h_2, .ref h_3, .ref h_4, .ref h_5, .ref h_6, .ref h_7, .ref h_8, .ref h_9, .ref h_10, .ref h_11, .ref h_12, .int h_13, .int h_14]))]) [0] (by decide) rfl
          have hFc := va_free (wc := [(h, .inr (11, [.ref h_0, .ref h_1, .ref h_2, .ref h_3, .ref h_4, .ref h_5, .ref h_6, .ref h_7, .ref h_8, .ref h_9, .ref h_10, .ref h_11, .ref h_12, .int h_13, .int h_14]))]) hD hS hA [0] rfl
          refine va_calli (va_runV (As := [.int 0]) (rest := []) ⟨hx, hb, hml, hown, hg⟩ (c_accept l D ct h 0 h_0 h_1 h_2 h_3 h_4 h_5 h_6 h_7 h_8 h_9 h_10 h_11 h_12 h_13 h_14 H.size ) (cwV 1 hg (gd_V wd_805 wd_807 wd_5 wd_107 wd_808) rfl rfl rfl (by decide +kernel) ⟨Nat.le_of_ble_eq_true rfl, Nat.le_of_ble_eq_true rfl⟩) (Wd_V hPc hKK hDc (va_recv hK hPc (ci := 11) (q0 := 0) rfl rfl)) rfl rfl hl.1 rfl (lv_room (Nat.le_of_ble_eq_true rfl)) dX11_doors_78 ⟨Nat.le_of_ble_eq_true rfl, Nat.le_of_ble_eq_true rfl⟩) hS (fun q _ h => hFc q h) hFc (fun r_15 u_15 t_15 H1 locs ht_15 hvm_15 hw_15 hB_15 hz_15 hk_15 hS => ?_)
          obtain ⟨hP, hD⟩ := va_join (wr := [(h_11, .inr (2, [.ref h_11_0, .ref h_11_1, .ref h_11_2, .ref h_11_3, .ref h_11_4, .long h_11_5, .long h_11_6])), (h_11_0, .inl (ct 1, 20, .inl f_12)), (h_11_1, .inl (ct 1, 20, .inl f_13)), (h_11_2, .inl (ct 1, 20, .inl f_14))]) (w1 := []) hP hD [0] [1, 2, 3, 4] rfl rfl (by decide) (by decide) hk_15 hFc (fun k q h => by simp at h) ⟨fun i j p q h => by simp at h, fun k q h => by simp at h⟩
          generalize H1 = H at hP hS ⊢
          have hP : va_P D vwCl [(h_11, .inr (2, [.ref h_11_0, .ref h_11_1, .ref h_11_2, .ref h_11_3, .ref h_11_4, .long h_11_5, .long h_11_6])), (h_11_0, .inl (ct 1, 20, .inl f_12)), (h_11_1, .inl (ct 1, 20, .inl f_13)), (h_11_2, .inl (ct 1, 20, .inl f_14))] H := hP
          have hD : va_D A [(h_11, .inr (2, [.ref h_11_0, .ref h_11_1, .ref h_11_2, .ref h_11_3, .ref h_11_4, .long h_11_5, .long h_11_6])), (h_11_0, .inl (ct 1, 20, .inl f_12)), (h_11_1, .inl (ct 1, 20, .inl f_13)), (h_11_2, .inl (ct 1, 20, .inl f_14))] := hD
          subst hw_15
          exact W.iret (v := 0) hx hb hr (fun t ht hW => ⟨⟨0, (), rfl, (by simp [sp_doors, c_2, c_5, c_8, c_11]), trivial⟩, hS.F ht⟩) hS.2.2 dX11_doors_81
        · refine lv_aload_n hx hb dX11_doors_39 rfl (lv_at hl 0 rfl) ?_
          refine lv_iconst (v := (-1)) hx hb dX11_doors_40 (by decide) ?_
          have hPc := hP.sub (ws' := [(h, .inr (11, [.ref h_0, .ref h_1, .ref h_2, .ref h_3, .ref h_4, .ref h_5, .ref h_6, .ref h_7, .ref h_8, .ref h_9, .ref h_10, .ref h_11, .ref h_12, .int h_13, .int h_14]))]) [0] rfl
          have hDc := hD.sub (ws' := [(h, .inr (11, [.ref h_0, .ref h_1, .ref h_2, .ref h_3, .ref h_4, .ref h_5, .ref h_6, .ref h_7, .ref h_8, .ref h_9, .ref h_10, .ref h_11, .ref h_12, .int h_13, .int h_14]))]) [0] (by decide) rfl
          have hFc := va_free (wc := [(h, .inr (11, [.ref h_0, .ref h_1, .ref h_2, .ref h_3, .ref h_4, .ref h_5, .ref h_6, .ref h_7, .ref h_8, .ref h_9, .ref h_10, .ref h_11, .ref h_12, .int h_13, .int h_14]))]) hD hS hA [0] rfl
          refine va_calli (va_runV (As := [.int (-1)]) (rest := []) ⟨hx, hb, hml, hown, hg⟩ (c_refuse l D ct h (-1) h_0 h_1 h_2 h_3 h_4 h_5 h_6 h_7 h_8 h_9 h_10 h_11 h_12 h_13 h_14 s.heap.size ) (cwV 1 hg (gd_V wd_778 wd_780 wd_3 wd_107 wd_781) rfl rfl rfl (by decide +kernel) ⟨Nat.le_of_ble_eq_true rfl, Nat.le_of_ble_eq_true rfl⟩) (Wd_V hPc hKK hDc (va_recv hK hPc (ci := 11) (q0 := 0) rfl rfl)) rfl rfl hl.1 rfl (lv_room (Nat.le_of_ble_eq_true rfl)) dX11_doors_41 ⟨Nat.le_of_ble_eq_true rfl, Nat.le_of_ble_eq_true rfl⟩) hS (fun q _ h => hFc q h) hFc (fun r_16 u_16 t_16 H1 locs ht_16 hvm_16 hw_16 hB_16 hz_16 hk_16 hS => ?_)
          obtain ⟨hP, hD⟩ := va_join (wr := [(h_11, .inr (2, [.ref h_11_0, .ref h_11_1, .ref h_11_2, .ref h_11_3, .ref h_11_4, .long h_11_5, .long h_11_6])), (h_11_0, .inl (ct 1, 20, .inl f)), (h_11_1, .inl (ct 1, 20, .inl g)), (h_11_2, .inl (ct 1, 20, .inl k))]) (w1 := []) hP hD [0] [1, 2, 3, 4] rfl rfl (by decide) (by decide) hk_16 hFc (fun k q h => by simp at h) ⟨fun i j p q h => by simp at h, fun k q h => by simp at h⟩
          generalize H1 = H at hP hS ⊢
          have hP : va_P D vwCl [(h_11, .inr (2, [.ref h_11_0, .ref h_11_1, .ref h_11_2, .ref h_11_3, .ref h_11_4, .long h_11_5, .long h_11_6])), (h_11_0, .inl (ct 1, 20, .inl f)), (h_11_1, .inl (ct 1, 20, .inl g)), (h_11_2, .inl (ct 1, 20, .inl k))] H := hP
          have hD : va_D A [(h_11, .inr (2, [.ref h_11_0, .ref h_11_1, .ref h_11_2, .ref h_11_3, .ref h_11_4, .long h_11_5, .long h_11_6])), (h_11_0, .inl (ct 1, 20, .inl f)), (h_11_1, .inl (ct 1, 20, .inl g)), (h_11_2, .inl (ct 1, 20, .inl k))] := hD
          subst hw_16
          exact W.iret (v := (-1)) hx hb hr (fun t ht hW => ⟨⟨(-1), (), rfl, (by simp [sp_doors, c_2, c_5, c_8, c_11]), trivial⟩, hS.F ht⟩) hS.2.2 dX11_doors_44
