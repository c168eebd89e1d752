def fX8_stance (a1 : Int32) (a2 : Int32) (S : zT) : Option (Int32 × zT) :=
  zbi (fX8_ahead a1 a2 S) fun r_2 S_1 =>
  zbi (fX8_behind a1 a2 S_1) fun r_4 S_3 =>
  (if ((r_2 + r_4) + 1) ≤ (S_3.1 102 6) then zbi (fX8_ahead a1 a2 S_3) fun r_6 S_5 =>
  zbi (fX8_behind a1 a2 S_5) fun r_8 S_7 =>
  some (((r_6 + r_8) + 1), S_7) else some (1, S_3))
abbrev rmX8_stance : Room := { frames := 2, cells := 0, slots := 0, locals := 45 }
theorem yd_X8_stance : yX8_stance.cls = RX8 ∧ yX8_stance.cls ≠ "java/lang/invoke/MethodHandle" ∧ yX8_stance.cls ≠ "java/lang/invoke/VarHandle" ∧ (parseMethodDescriptor yX8_stance.desc).map (fun d => d.parameters.length) = some 2 := by decide +kernel
set_option maxRecDepth 100000 in
set_option maxHeartbeats 4000000 in
theorem ctX8_stance {l : Launch} {dC : Nat → ClassId} {dI : Nat → Nat → Nat} {cI : ClassId × ClassId} {cW : List zSh} {q : Nat → Nat} (hq : zI cW q) (hW : zIs cI cW) {a1 : Int32} {a2 : Int32} {S : zT} {o : Int32 × zT} (h : fX8_stance a1 a2 S = some o) : zCi l dC dI cI cW q yX8_stance (Cond.code yX8_stance cX8_stance 3 (some .int) :: zU) rmX8_stance [.ref (q 101), .int a1, .int a2] S o := by
  refine zMet_i (lv := [(0, .ref (q 101)), (1, .int a1), (2, .int a2)]) (by decide) (Nat.le_of_ble_eq_true rfl) rfl ?_
  intro p e s m args below meth c Q hx hb hml hr hU hown hlocks hK hN hP hS ls hl hQ
  replace hown : s.vm.findClass RX8 = some m.cls := hown
  unfold fX8_stance at h
  refine lv_aload_n hx hb dX8_stance_0 rfl (lv_at hl 0 rfl) ?_
  refine lv_iload_n hx hb dX8_stance_1 rfl (lv_at hl 1 rfl) ?_
  refine lv_iload_n hx hb dX8_stance_2 rfl (lv_at hl 2 rfl) ?_
  refine z_callV_i hx hb hml hown hU hK hN hP hS 2 (p_101 hW) rfl rfl (zU_V uL_X8_85 uI_X8_ahead uS_X8_ahead uN_X8 uC_X8_ahead) yd_X8_ahead ⟨rfl, rfl⟩ ⟨Nat.le_of_ble_eq_true rfl, Nat.le_of_ble_eq_true rfl⟩ (As := [.int a1, .int a2]) (fun o h9 => ctX8_ahead hq hW h9) rfl hl.1 rfl (Nat.le_of_ble_eq_true rfl) dX8_stance_3 ⟨Nat.zero_le _, Nat.zero_le _⟩ h (fun r_2 S_1 H locs hP hS h => ?_)
  refine lv_aload_n hx hb dX8_stance_6 rfl (lv_at hl 0 rfl) ?_
  refine lv_iload_n hx hb dX8_stance_7 rfl (lv_at hl 1 rfl) ?_
  refine lv_iload_n hx hb dX8_stance_8 rfl (lv_at hl 2 rfl) ?_
  refine z_callV_i hx hb hml hown hU hK hN hP hS 2 (p_101 hW) rfl rfl (zU_V uL_X8_88 uI_X8_behind uS_X8_behind uN_X8 uC_X8_behind) yd_X8_behind ⟨rfl, rfl⟩ ⟨Nat.le_of_ble_eq_true rfl, Nat.le_of_ble_eq_true rfl⟩ (As := [.int a1, .int a2]) (fun o h9 => ctX8_behind hq hW h9) rfl hl.1 rfl (Nat.le_of_ble_eq_true rfl) dX8_stance_9 ⟨Nat.zero_le _, Nat.zero_le _⟩ h (fun r_4 S_3 H locs hP hS h => ?_)
  refine lv_iadd hx hb dX8_stance_12 ?_
  refine lv_iconst (v := 1) hx hb dX8_stance_13 rfl ?_
  refine lv_iadd hx hb dX8_stance_14 ?_
  refine lv_aload_n hx hb dX8_stance_15 rfl (lv_at hl 0 rfl) ?_
  refine z_get hx hb hU uU_X8 hown hK hP (p_101 hW) rfl rfl 1 (by decide) (hU _ uF_X8_7) rfl dX8_stance_16 ?_
  refine lv_bipush (v := 6) hx hb dX8_stance_19 rfl ?_
  refine z_ialdC (j := 6) hx hb hK hP (pA_102 hW) dX8_stance_21 rfl (by decide) ?_
  refine z_icmp_le (tgt := 29) hx hb dX8_stance_22 (by decide) h (fun h => ?_) (fun h => ?_)
  · refine lv_aload_n hx hb dX8_stance_29 rfl (lv_at hl 0 rfl) ?_
    refine lv_iload_n hx hb dX8_stance_30 rfl (lv_at hl 1 rfl) ?_
    refine lv_iload_n hx hb dX8_stance_31 rfl (lv_at hl 2 rfl) ?_
    refine z_callV_i hx hb hml hown hU hK hN hP hS 2 (p_101 hW) rfl rfl (zU_V uL_X8_85 uI_X8_ahead uS_X8_ahead uN_X8 uC_X8_ahead) yd_X8_ahead ⟨rfl, rfl⟩ ⟨Nat.le_of_ble_eq_true rfl, Nat.le_of_ble_eq_true rfl⟩ (As := [.int a1, .int a2]) (fun o h9 => ctX8_ahead hq hW h9) rfl hl.1 rfl (Nat.le_of_ble_eq_true rfl) dX8_stance_32 ⟨Nat.zero_le _, Nat.zero_le _⟩ h (fun r_6 S_5 H locs hP hS h => ?_)
    refine lv_aload_n hx hb dX8_stance_35 rfl (lv_at hl 0 rfl) ?_
    refine lv_iload_n hx hb dX8_stance_36 rfl (lv_at hl 1 rfl) ?_
    refine lv_iload_n hx hb dX8_stance_37 rfl (lv_at hl 2 rfl) ?_
    refine z_callV_i hx hb hml hown hU hK hN hP hS 2 (p_101 hW) rfl rfl (zU_V uL_X8_88 uI_X8_behind uS_X8_behind uN_X8 uC_X8_behind) yd_X8_behind ⟨rfl, rfl⟩ ⟨Nat.le_of_ble_eq_true rfl, Nat.le_of_ble_eq_true rfl⟩ (As := [.int a1, .int a2]) (fun o h9 => ctX8_behind hq hW h9) rfl hl.1 rfl (Nat.le_of_ble_eq_true rfl) dX8_stance_38 ⟨Nat.zero_le _, Nat.zero_le _⟩ h (fun r_8 S_7 H locs hP hS h => ?_)
    refine lv_iadd hx hb dX8_stance_41 ?_
    refine lv_iconst (v := 1) hx hb dX8_stance_42 rfl ?_
    refine lv_iadd hx hb dX8_stance_43 ?_
    exact z_iret hx hb hlocks hP hS hQ hr dX8_stance_44 h
  · refine lv_iconst (v := 1) hx hb dX8_stance_25 rfl ?_
    refine lv_goto (tgt := 44) hx hb dX8_stance_26 (by decide) ?_
    exact z_iret hx hb hlocks hP hS hQ hr dX8_stance_44 h

def fX8_footY_22 (x1 : Int32) (x3 : Int32) (t0 : Int32) (S : zT) : Option (Int32 × zT) :=
  if ¬ ((15 + x1) < 0 ∨ 48 ≤ (15 + x1).toNatClampNeg) then some (((2 * (S.1 102 (15 + x1).toNatClampNeg)) + ((S.1 102 2) * ((x3 - 1) - (2 * t0)))), S) else none
def fX8_footY (a1 : Int32) (a2 : Int32) (S : zT) : Option (Int32 × zT) :=
  zbi (fX8_stance a1 a2 S) fun r_2 S_1 =>
  (if r_2 = 1 then fX8_footY_22 a1 r_2 0 S_1 else zbi (fX8_ahead a1 a2 S_1) fun r_4 S_3 =>
  fX8_footY_22 a1 r_2 r_4 S_3)
abbrev rmX8_footY : Room := { frames := 3, cells := 0, slots := 0, locals := 67 }
theorem yd_X8_footY : yX8_footY.cls = RX8 ∧ yX8_footY.cls ≠ "java/lang/invoke/MethodHandle" ∧ yX8_footY.cls ≠ "java/lang/invoke/VarHandle" ∧ (parseMethodDescriptor yX8_footY.desc).map (fun d => d.parameters.length) = some 2 := by decide +kernel
set_option maxRecDepth 100000 in
set_option maxHeartbeats 4000000 in
theorem ctX8_footY {l : Launch} {dC : Nat → ClassId} {dI : Nat → Nat → Nat} {cI : ClassId × ClassId} {cW : List zSh} {q : Nat → Nat} (hq : zI cW q) (hW : zIs cI cW) {a1 : Int32} {a2 : Int32} {S : zT} {o : Int32 × zT} (h : fX8_footY a1 a2 S = some o) : zCi l dC dI cI cW q yX8_footY (Cond.code yX8_footY cX8_footY 5 (some .int) :: zU) rmX8_footY [.ref (q 101), .int a1, .int a2] S o := by
  refine zMet_i (lv := [(0, .ref (q 101)), (1, .int a1), (2, .int a2)]) (by decide) (Nat.le_of_ble_eq_true rfl) rfl ?_
  intro p e s m args below meth c Q hx hb hml hr hU hown hlocks hK hN hP hS ls hl hQ
  replace hown : s.vm.findClass RX8 = some m.cls := hown
  unfold fX8_footY at h
  have L22 : ∀ (x1 : Int32) (x3 : Int32) (t0 : Int32) (S : zT) (H : Heap) (locs : List Loc) (ls : Array Slot), va_P (dC, dI) vwCl (zWd cI cW q S) H → va_S (zA cW q) s.heap H locs → lv_has ls 5 [(0, .ref (q 101)), (1, .int x1), (3, .int x3)] → fX8_footY_22 x1 x3 t0 S = some o → W p l e rmX8_footY s m args below meth c H locs 0 0 Q (F0 m 22 ls [.int t0]) := by
    intro x1 x3 t0 S H locs ls hP hS hl h
    unfold fX8_footY_22 at h
    refine lv_istore (lv' := [(4, .int t0), (0, .ref (q 101)), (1, .int x1), (3, .int x3)]) hx hb dX8_footY_22 hl (by decide) rfl (fun ls hl => ?_)
    refine lv_iconst (v := 2) hx hb dX8_footY_24 rfl ?_
    refine lv_aload_n hx hb dX8_footY_25 rfl (lv_at hl 1 rfl) ?_
    refine z_get hx hb hU uU_X8 hown hK hP (p_101 hW) rfl rfl 1 (by decide) (hU _ uF_X8_7) rfl dX8_footY_26 ?_
    refine lv_bipush (v := 15) hx hb dX8_footY_29 rfl ?_
    refine lv_iload_n hx hb dX8_footY_31 rfl (lv_at hl 2 rfl) ?_
    refine lv_iadd hx hb dX8_footY_32 ?_
    refine z_iald hx hb hK hP (pA_102 hW) dX8_footY_33 h (fun h => ?_)
    refine lv_imul hx hb dX8_footY_34 ?_
    refine lv_aload_n hx hb dX8_footY_35 rfl (lv_at hl 1 rfl) ?_
    refine z_get hx hb hU uU_X8 hown hK hP (p_101 hW) rfl rfl 1 (by decide) (hU _ uF_X8_7) rfl dX8_footY_36 ?_
    refine lv_iconst (v := 2) hx hb dX8_footY_39 rfl ?_
    refine z_ialdC (j := 2) hx hb hK hP (pA_102 hW) dX8_footY_40 rfl (by decide) ?_
    refine lv_iload_n hx hb dX8_footY_41 rfl (lv_at hl 3 rfl) ?_
    refine lv_iconst (v := 1) hx hb dX8_footY_42 rfl ?_
    refine lv_isub hx hb dX8_footY_43 ?_
    refine lv_iconst (v := 2) hx hb dX8_footY_44 rfl ?_
    refine lv_iload hx hb dX8_footY_45 (lv_at hl 0 rfl) ?_
    refine lv_imul hx hb dX8_footY_47 ?_
    refine lv_isub hx hb dX8_footY_48 ?_
    refine lv_imul hx hb dX8_footY_49 ?_
    refine lv_iadd hx hb dX8_footY_50 ?_
    exact z_iret hx hb hlocks hP hS hQ hr dX8_footY_51 h
  refine lv_aload_n hx hb dX8_footY_0 rfl (lv_at hl 0 rfl) ?_
  refine lv_iload_n hx hb dX8_footY_1 rfl (lv_at hl 1 rfl) ?_
  refine lv_iload_n hx hb dX8_footY_2 rfl (lv_at hl 2 rfl) ?_
  refine z_callV_i hx hb hml hown hU hK hN hP hS 2 (p_101 hW) rfl rfl (zU_V uL_X8_94 uI_X8_stance uS_X8_stance uN_X8 uC_X8_stance) yd_X8_stance ⟨rfl, rfl⟩ ⟨Nat.le_of_ble_eq_true rfl, Nat.le_of_ble_eq_true rfl⟩ (As := [.int a1, .int a2]) (fun o h9 => ctX8_stance hq hW h9) rfl hl.1 rfl (Nat.le_of_ble_eq_true rfl) dX8_footY_3 ⟨Nat.zero_le _, Nat.zero_le _⟩ h (fun r_2 S_1 H locs hP hS h => ?_)
  refine lv_istore_n (lv' := [(3, .int r_2), (0, .ref (q 101)), (1, .int a1), (2, .int a2)]) hx hb dX8_footY_6 rfl hl (by decide) rfl (fun ls hl => ?_)
  refine lv_iload_n hx hb dX8_footY_7 rfl (lv_at hl 0 rfl) ?_
  refine lv_iconst (v := 1) hx hb dX8_footY_8 rfl ?_
  refine z_icmp_ne (tgt := 16) hx hb dX8_footY_9 (by decide) h (fun h => ?_) (fun h => ?_)
  · refine lv_aload_n hx hb dX8_footY_16 rfl (lv_at hl 1 rfl) ?_
    refine lv_iload_n hx hb dX8_footY_17 rfl (lv_at hl 2 rfl) ?_
    refine lv_iload_n hx hb dX8_footY_18 rfl (lv_at hl 3 rfl) ?_
    refine z_callV_i hx hb hml hown hU hK hN hP hS 2 (p_101 hW) rfl rfl (zU_V uL_X8_85 uI_X8_ahead uS_X8_ahead uN_X8 uC_X8_ahead) yd_X8_ahead ⟨rfl, rfl⟩ ⟨Nat.le_of_ble_eq_true rfl, Nat.le_of_ble_eq_true rfl⟩ (As := [.int a1, .int a2]) (fun o h9 => ctX8_ahead hq hW h9) rfl hl.1 rfl (Nat.le_of_ble_eq_true rfl) dX8_footY_19 ⟨Nat.zero_le _, Nat.zero_le _⟩ h (fun r_4 S_3 H locs hP hS h => ?_)
    exact L22 a1 r_2 r_4 _ _ _ ls hP hS (lv_sub hl [1, 2, 0] rfl) h
  · refine lv_iconst (v := 0) hx hb dX8_footY_12 rfl ?_
    refine lv_goto (tgt := 22) hx hb dX8_footY_13 (by decide) ?_
    exact L22 a1 r_2 0 _ _ _ ls hP hS (lv_sub hl [1, 2, 0] rfl) h

def fX8_foot (a1 : Int32) (a2 : Int32) (a3 : Int32) (S : zT) : Option (Int32 × zT) :=
  zlet (zsi S 101 0 0) fun S_1 =>
  zbv (fX8_begins S_1) fun S_2 =>
  zbi (fX8_isLeg a1 S_2) fun r_4 S_3 =>
  (if r_4 = 0 then some ((-1000), S_3) else zbi (fX8_isTick a2 S_3) fun r_6 S_5 =>
  (if r_6 = 0 then some ((-1000), S_5) else (if a3 < 0 then some ((-1000), S_5) else (if 1 < a3 then some ((-1000), S_5) else zbi (fX8_isDown a1 a2 S_5) fun r_8 S_7 =>
  (if r_8 = 0 then some ((-1000), S_7) else (if a3 = 0 then if ¬ ((7 + a1) < 0 ∨ 48 ≤ (7 + a1).toNatClampNeg) then some ((2 * (S_7.1 102 (7 + a1).toNatClampNeg)), S_7) else none else zbi (fX8_footY a1 a2 S_7) fun r_10 S_9 =>
  some (r_10, S_9)))))))
abbrev rmX8_foot : Room := { frames := 4, cells := 0, slots := 0, locals := 91 }
theorem yd_X8_foot : yX8_foot.cls = RX8 ∧ yX8_foot.cls ≠ "java/lang/invoke/MethodHandle" ∧ yX8_foot.cls ≠ "java/lang/invoke/VarHandle" ∧ (parseMethodDescriptor yX8_foot.desc).map (fun d => d.parameters.length) = some 3 := by decide +kernel
set_option maxRecDepth 100000 in
set_option maxHeartbeats 4000000 in
theorem ctX8_foot {l : Launch} {dC : Nat → ClassId} {dI : Nat → Nat → Nat} {cI : ClassId × ClassId} {cW : List zSh} {q : Nat → Nat} (hq : zI cW q) (hW : zIs cI cW) {a1 : Int32} {a2 : Int32} {a3 : Int32} {S : zT} {o : Int32 × zT} (h : fX8_foot a1 a2 a3 S = some o) : zCi l dC dI cI cW q yX8_foot (Cond.code yX8_foot cX8_foot 4 (some .int) :: zU) rmX8_foot [.ref (q 101), .int a1, .int a2, .int a3] S o := by
  refine zMet_i (lv := [(0, .ref (q 101)), (1, .int a1), (2, .int a2), (3, .int a3)]) (by decide) (Nat.le_of_ble_eq_true rfl) rfl ?_
  intro p e s m args below meth c Q hx hb hml hr hU hown hlocks hK hN hP hS ls hl hQ
  replace hown : s.vm.findClass RX8 = some m.cls := hown
  unfold fX8_foot at h
  refine lv_aload_n hx hb dX8_foot_0 rfl (lv_at hl 0 rfl) ?_
  refine lv_iconst (v := 0) hx hb dX8_foot_1 rfl ?_
  refine z_puti hx hb hU uU_X8 tyX8 tyX8_ok nmX8 hown hq hK hP hS (p_101 hW) rfl rfl 0 (by decide) (hU _ uF_X8_34) rfl rfl rfl (Nat.le_of_ble_eq_true rfl) rfl dX8_foot_2 h (fun S_1 H locs hP hS h => ?_)
  refine lv_aload_n hx hb dX8_foot_5 rfl (lv_at hl 0 rfl) ?_
  refine z_callV_v hx hb hml hown hU hK hN hP hS 0 (p_101 hW) rfl rfl (zU_V uL_X8_49 uI_X8_begins uS_X8_begins uN_X8 uC_X8_begins) yd_X8_begins ⟨rfl, rfl⟩ ⟨Nat.le_of_ble_eq_true rfl, Nat.le_of_ble_eq_true rfl⟩ (As := []) (fun o h9 => ctX8_begins hq hW h9) rfl hl.1 rfl (Nat.le_of_ble_eq_true rfl) dX8_foot_6 ⟨Nat.zero_le _, Nat.zero_le _⟩ h (fun S_2 H locs hP hS h => ?_)
  refine lv_aload_n hx hb dX8_foot_9 rfl (lv_at hl 0 rfl) ?_
  refine lv_iload_n hx hb dX8_foot_10 rfl (lv_at hl 1 rfl) ?_
  refine z_callV_i hx hb hml hown hU hK hN hP hS 1 (p_101 hW) rfl rfl (zU_V uL_X8_55 uI_X8_isLeg uS_X8_isLeg uN_X8 uC_X8_isLeg) yd_X8_isLeg ⟨rfl, rfl⟩ ⟨Nat.le_of_ble_eq_true rfl, Nat.le_of_ble_eq_true rfl⟩ (As := [.int a1]) (fun o h9 => ctX8_isLeg hq hW h9) rfl hl.1 rfl (Nat.le_of_ble_eq_true rfl) dX8_foot_11 ⟨Nat.zero_le _, Nat.zero_le _⟩ h (fun r_4 S_3 H locs hP hS h => ?_)
  refine z_if_eq (tgt := 43) hx hb dX8_foot_14 (by decide) h (fun h => ?_) (fun h => ?_)
  · refine lv_sipush (v := (-1000)) hx hb dX8_foot_43 rfl ?_
    exact z_iret hx hb hlocks hP hS hQ hr dX8_foot_46 h
  · refine lv_aload_n hx hb dX8_foot_17 rfl (lv_at hl 0 rfl) ?_
    refine lv_iload_n hx hb dX8_foot_18 rfl (lv_at hl 2 rfl) ?_
    refine z_callV_i hx hb hml hown hU hK hN hP hS 1 (p_101 hW) rfl rfl (zU_V uL_X8_71 uI_X8_isTick uS_X8_isTick uN_X8 uC_X8_isTick) yd_X8_isTick ⟨rfl, rfl⟩ ⟨Nat.le_of_ble_eq_true rfl, Nat.le_of_ble_eq_true rfl⟩ (As := [.int a2]) (fun o h9 => ctX8_isTick hq hW h9) rfl hl.1 rfl (Nat.le_of_ble_eq_true rfl) dX8_foot_19 ⟨Nat.zero_le _, Nat.zero_le _⟩ h (fun r_6 S_5 H locs hP hS h => ?_)
    refine z_if_eq (tgt := 43) hx hb dX8_foot_22 (by decide) h (fun h => ?_) (fun h => ?_)
    · refine lv_sipush (v := (-1000)) hx hb dX8_foot_43 rfl ?_
      exact z_iret hx hb hlocks hP hS hQ hr dX8_foot_46 h
    · refine lv_iload_n hx hb dX8_foot_25 rfl (lv_at hl 3 rfl) ?_
      refine z_if_lt (tgt := 43) hx hb dX8_foot_26 (by decide) h (fun h => ?_) (fun h => ?_)
      · refine lv_sipush (v := (-1000)) hx hb dX8_foot_43 rfl ?_
        exact z_iret hx hb hlocks hP hS hQ hr dX8_foot_46 h
      · refine lv_iload_n hx hb dX8_foot_29 rfl (lv_at hl 3 rfl) ?_
        refine lv_iconst (v := 1) hx hb dX8_foot_30 rfl ?_
        refine z_icmp_gt (tgt := 43) hx hb dX8_foot_31 (by decide) h (fun h => ?_) (fun h => ?_)
        · refine lv_sipush (v := (-1000)) hx hb dX8_foot_43 rfl ?_
          exact z_iret hx hb hlocks hP hS hQ hr dX8_foot_46 h
        · refine lv_aload_n hx hb dX8_foot_34 rfl (lv_at hl 0 rfl) ?_
          refine lv_iload_n hx hb dX8_foot_35 rfl (lv_at hl 1 rfl) ?_
          refine lv_iload_n hx hb dX8_foot_36 rfl (lv_at hl 2 rfl) ?_
          refine z_callV_i hx hb hml hown hU hK hN hP hS 2 (p_101 hW) rfl rfl (zU_V uL_X8_91 uI_X8_isDown uS_X8_isDown uN_X8 uC_X8_isDown) yd_X8_isDown ⟨rfl, rfl⟩ ⟨Nat.le_of_ble_eq_true rfl, Nat.le_of_ble_eq_true rfl⟩ (As := [.int a1, .int a2]) (fun o h9 => ctX8_isDown hq hW h9) rfl hl.1 rfl (Nat.le_of_ble_eq_true rfl) dX8_foot_37 ⟨Nat.zero_le _, Nat.zero_le _⟩ h (fun r_8 S_7 H locs hP hS h => ?_)
          refine z_if_ne (tgt := 47) hx hb dX8_foot_40 (by decide) h (fun h => ?_) (fun h => ?_)
          · refine lv_iload_n hx hb dX8_foot_47 rfl (lv_at hl 3 rfl) ?_
            refine z_if_ne (tgt := 65) hx hb dX8_foot_48 (by decide) h (fun h => ?_) (fun h => ?_)
            · refine lv_aload_n hx hb dX8_foot_65 rfl (lv_at hl 0 rfl) ?_
              refine lv_iload_n hx hb dX8_foot_66 rfl (lv_at hl 1 rfl) ?_
              refine lv_iload_n hx hb dX8_foot_67 rfl (lv_at hl 2 rfl) ?_
              refine z_callV_i hx hb hml hown hU hK hN hP hS 2 (p_101 hW) rfl rfl (zU_V uL_X8_97 uI_X8_footY uS_X8_footY uN_X8 uC_X8_footY) yd_X8_footY ⟨rfl, rfl⟩ ⟨Nat.le_of_ble_eq_true rfl, Nat.le_of_ble_eq_true rfl⟩ (As := [.int a1, .int a2]) (fun o h9 => ctX8_footY hq hW h9) rfl hl.1 rfl (Nat.le_of_ble_eq_true rfl) dX8_foot_68 ⟨Nat.zero_le _, Nat.zero_le _⟩ h (fun r_10 S_9 H locs hP hS h => ?_)
              exact z_iret hx hb hlocks hP hS hQ hr dX8_foot_71 h
            · refine lv_iconst (v := 2) hx hb dX8_foot_51 rfl ?_
              refine lv_aload_n hx hb dX8_foot_52 rfl (lv_at hl 0 rfl) ?_
              refine z_get hx hb hU uU_X8 hown hK hP (p_101 hW) rfl rfl 1 (by decide) (hU _ uF_X8_7) rfl dX8_foot_53 ?_
              refine lv_bipush (v := 7) hx hb dX8_foot_56 rfl ?_
              refine lv_iload_n hx hb dX8_foot_58 rfl (lv_at hl 1 rfl) ?_
              refine lv_iadd hx hb dX8_foot_59 ?_
              refine z_iald hx hb hK hP (pA_102 hW) dX8_foot_60 h (fun h => ?_)
              refine lv_imul hx hb dX8_foot_61 ?_
              refine lv_goto (tgt := 71) hx hb dX8_foot_62 (by decide) ?_
              exact z_iret hx hb hlocks hP hS hQ hr dX8_foot_71 h
          · refine lv_sipush (v := (-1000)) hx hb dX8_foot_43 rfl ?_
            exact z_iret hx hb hlocks hP hS hQ hr dX8_foot_46 h

def fX8_stand (a1 : Int32) (a2 : Int32) (S : zT) : Option zT :=
  if ¬ ((S.1 101 5) < 0 ∨ 8 ≤ (S.1 101 5).toNatClampNeg) then zlet (zsi S 104 (S.1 101 5).toNatClampNeg a1) (fun S_1 =>
  if ¬ ((S_1.1 101 5) < 0 ∨ 8 ≤ (S_1.1 101 5).toNatClampNeg) then zlet (zsi S_1 105 (S_1.1 101 5).toNatClampNeg a2) (fun S_2 =>
  zlet (zsi S_2 101 5 ((S_2.1 101 5) + 1)) fun S_3 =>
  some S_3) else none) else none
abbrev rmX8_stand : Room := { frames := 0, cells := 0, slots := 0, locals := 0 }
theorem yd_X8_stand : yX8_stand.cls = RX8 ∧ yX8_stand.cls ≠ "java/lang/invoke/MethodHandle" ∧ yX8_stand.cls ≠ "java/lang/invoke/VarHandle" ∧ (parseMethodDescriptor yX8_stand.desc).map (fun d => d.parameters.length) = some 2 := by decide +kernel
set_option maxRecDepth 100000 in
set_option maxHeartbeats 4000000 in
theorem ctX8_stand {l : Launch} {dC : Nat → ClassId} {dI : Nat → Nat → Nat} {cI : ClassId × ClassId} {cW : List zSh} {q : Nat → Nat} (hq : zI cW q) (hW : zIs cI cW) {a1 : Int32} {a2 : Int32} {S : zT} {o : zT} (h : fX8_stand a1 a2 S = some o) : zCv l dC dI cI cW q yX8_stand (Cond.code yX8_stand cX8_stand 3 none :: zU) rmX8_stand [.ref (q 101), .int a1, .int a2] S o := by
  refine zMet_v (lv := [(0, .ref (q 101)), (1, .int a1), (2, .int a2)]) (by decide) (Nat.le_of_ble_eq_true rfl) rfl ?_
  intro p e s m args below meth c Q hx hb hml hr hU hown hlocks hK hN hP hS ls hl hQ
  replace hown : s.vm.findClass RX8 = some m.cls := hown
  unfold fX8_stand at h
  refine lv_aload_n hx hb dX8_stand_0 rfl (lv_at hl 0 rfl) ?_
  refine z_get hx hb hU uU_X8 hown hK hP (p_101 hW) rfl rfl 6 (by decide) (hU _ uF_X8_16) rfl dX8_stand_1 ?_
  refine lv_aload_n hx hb dX8_stand_4 rfl (lv_at hl 0 rfl) ?_
  refine z_get hx hb hU uU_X8 hown hK hP (p_101 hW) rfl rfl 5 (by decide) (hU _ uF_X8_100) rfl dX8_stand_5 ?_
  refine lv_iload_n hx hb dX8_stand_8 rfl (lv_at hl 1 rfl) ?_
  refine z_iast hx hb hq hK hP hS (pA_104 hW) dX8_stand_9 h (fun S_1 H locs hP hS h => ?_)
  refine lv_aload_n hx hb dX8_stand_10 rfl (lv_at hl 0 rfl) ?_
  refine z_get hx hb hU uU_X8 hown hK hP (p_101 hW) rfl rfl 7 (by decide) (hU _ uF_X8_19) rfl dX8_stand_11 ?_
  refine lv_aload_n hx hb dX8_stand_14 rfl (lv_at hl 0 rfl) ?_
  refine z_get hx hb hU uU_X8 hown hK hP (p_101 hW) rfl rfl 5 (by decide) (hU _ uF_X8_100) rfl dX8_stand_15 ?_
  refine lv_iload_n hx hb dX8_stand_18 rfl (lv_at hl 2 rfl) ?_
  refine z_iast hx hb hq hK hP hS (pA_105 hW) dX8_stand_19 h (fun S_2 H locs hP hS h => ?_)
  refine lv_aload_n hx hb dX8_stand_20 rfl (lv_at hl 0 rfl) ?_
  refine lv_aload_n hx hb dX8_stand_21 rfl (lv_at hl 0 rfl) ?_
  refine z_get hx hb hU uU_X8 hown hK hP (p_101 hW) rfl rfl 5 (by decide) (hU _ uF_X8_100) rfl dX8_stand_22 ?_
  refine lv_iconst (v := 1) hx hb dX8_stand_25 rfl ?_
  refine lv_iadd hx hb dX8_stand_26 ?_
  refine z_puti hx hb hU uU_X8 tyX8 tyX8_ok nmX8 hown hq hK hP hS (p_101 hW) rfl rfl 5 (by decide) (hU _ uF_X8_100) rfl rfl rfl (Nat.le_of_ble_eq_true rfl) rfl dX8_stand_27 h (fun S_3 H locs hP hS h => ?_)
  exact z_vret hx hb hlocks hP hS hQ hr dX8_stand_30 h

def fX8_place_64 (S : zT) : Option zT :=
  zlet (zsi S 101 8 1) fun S_1 =>
  some S_1
def fX8_place_54 (k64 : zT → Option zT) (x1 : Int32) (x2 : Int32) (S : zT) : Option zT :=
  zlet (zsi S 101 11 x1) fun S_2 =>
  zlet (zsi S_2 101 12 x2) fun S_3 =>
  k64 S_3
def fX8_place_32 (x1 : Int32) (x2 : Int32) (S : zT) : Option zT :=
  (if (S.1 101 8) = 0 then (fX8_place_54 fX8_place_64) x1 x2 S else (if (x1 * (S.1 101 12)) ≤ ((S.1 101 11) * x2) then fX8_place_64 S else (fX8_place_54 fX8_place_64) x1 x2 S))
def fX8_place_22 (k32 : Int32 → Int32 → zT → Option zT) (x1 : Int32) (x2 : Int32) (S : zT) : Option zT :=
  zlet (zsi S 101 9 x1) fun S_4 =>
  zlet (zsi S_4 101 10 x2) fun S_5 =>
  k32 x1 x2 S_5
def fX8_place (a1 : Int32) (a2 : Int32) (S : zT) : Option zT :=
  (if (S.1 101 8) = 0 then (fX8_place_22 fX8_place_32) a1 a2 S else (if ((S.1 101 9) * a2) ≤ (a1 * (S.1 101 10)) then fX8_place_32 a1 a2 S else (fX8_place_22 fX8_place_32) a1 a2 S))
abbrev rmX8_place : Room := { frames := 0, cells := 0, slots := 0, locals := 0 }
theorem yd_X8_place : yX8_place.cls = RX8 ∧ yX8_place.cls ≠ "java/lang/invoke/MethodHandle" ∧ yX8_place.cls ≠ "java/lang/invoke/VarHandle" ∧ (parseMethodDescriptor yX8_place.desc).map (fun d => d.parameters.length) = some 2 := by decide +kernel
set_option maxRecDepth 100000 in
set_option maxHeartbeats 4000000 in
theorem ctX8_place {l : Launch} {dC : Nat → ClassId} {dI : Nat → Nat → Nat} {cI : ClassId × ClassId} {cW : List zSh} {q : Nat → Nat} (hq : zI cW q) (hW : zIs cI cW) {a1 : Int32} {a2 : Int32} {S : zT} {o : zT} (h : fX8_place a1 a2 S = some o) : zCv l dC dI cI cW q yX8_place (Cond.code yX8_place cX8_place 3 none :: zU) rmX8_place [.ref (q 101), .int a1, .int a2] S o := by
  refine zMet_v (lv := [(0, .ref (q 101)), (1, .int a1), (2, .int a2)]) (by decide) (Nat.le_of_ble_eq_true rfl) rfl ?_
  intro p e s m args below meth c Q hx hb hml hr hU hown hlocks hK hN hP hS ls hl hQ
  replace hown : s.vm.findClass RX8 = some m.cls := hown
  unfold fX8_place at h
  have L32 : ∀ (x1 : Int32) (x2 : Int32) (S : zT) (H : Heap) (locs : List Loc) (ls : Array Slot), va_P (dC, dI) vwCl (zWd cI cW q S) H → va_S (zA cW q) s.heap H locs → lv_has ls 3 [(0, .ref (q 101)), (1, .int x1), (2, .int x2)] → fX8_place_32 x1 x2 S = some o → W p l e rmX8_place s m args below meth c H locs 0 0 Q (F0 m 32 ls []) := by
    intro x1 x2 S H locs ls hP hS hl h
    unfold fX8_place_32 at h
    have L64 : ∀ (S : zT) (H : Heap) (locs : List Loc) (ls : Array Slot), va_P (dC, dI) vwCl (zWd cI cW q S) H → va_S (zA cW q) s.heap H locs → lv_has ls 3 [(0, .ref (q 101))] → fX8_place_64 S = some o → W p l e rmX8_place s m args below meth c H locs 0 0 Q (F0 m 64 ls []) := by
      intro S H locs ls hP hS hl h
      unfold fX8_place_64 at h
      refine lv_aload_n hx hb dX8_place_64 rfl (lv_at hl 0 rfl) ?_
      refine lv_iconst (v := 1) hx hb dX8_place_65 rfl ?_
      refine z_puti hx hb hU uU_X8 tyX8 tyX8_ok nmX8 hown hq hK hP hS (p_101 hW) rfl rfl 8 (by decide) (hU _ uF_X8_103) rfl rfl rfl (Nat.le_of_ble_eq_true rfl) rfl dX8_place_66 h (fun S_1 H locs hP hS h => ?_)
      exact z_vret hx hb hlocks hP hS hQ hr dX8_place_69 h
    have L54 : ∀ (x1 : Int32) (x2 : Int32) (S : zT) (H : Heap) (locs : List Loc) (ls : Array Slot), va_P (dC, dI) vwCl (zWd cI cW q S) H → va_S (zA cW q) s.heap H locs → lv_has ls 3 [(0, .ref (q 101)), (1, .int x1), (2, .int x2)] → (fX8_place_54 fX8_place_64) x1 x2 S = some o → W p l e rmX8_place s m args below meth c H locs 0 0 Q (F0 m 54 ls []) := by
      intro x1 x2 S H locs ls hP hS hl h
      unfold fX8_place_54 at h
      refine lv_aload_n hx hb dX8_place_54 rfl (lv_at hl 0 rfl) ?_
      refine lv_iload_n hx hb dX8_place_55 rfl (lv_at hl 1 rfl) ?_
      refine z_puti hx hb hU uU_X8 tyX8 tyX8_ok nmX8 hown hq hK hP hS (p_101 hW) rfl rfl 11 (by decide) (hU _ uF_X8_115) rfl rfl rfl (Nat.le_of_ble_eq_true rfl) rfl dX8_place_56 h (fun S_2 H locs hP hS h => ?_)
      refine lv_aload_n hx hb dX8_place_59 rfl (lv_at hl 0 rfl) ?_
      refine lv_iload_n hx hb dX8_place_60 rfl (lv_at hl 2 rfl) ?_
      refine z_puti hx hb hU uU_X8 tyX8 tyX8_ok nmX8 hown hq hK hP hS (p_101 hW) rfl rfl 12 (by decide) (hU _ uF_X8_112) rfl rfl rfl (Nat.le_of_ble_eq_true rfl) rfl dX8_place_61 h (fun S_3 H locs hP hS h => ?_)
      exact L64  _ _ _ ls hP hS (lv_sub hl [0] rfl) h
    refine lv_aload_n hx hb dX8_place_32 rfl (lv_at hl 0 rfl) ?_
    refine z_get hx hb hU uU_X8 hown hK hP (p_101 hW) rfl rfl 8 (by decide) (hU _ uF_X8_103) rfl dX8_place_33 ?_
    refine z_if_eq (tgt := 54) hx hb dX8_place_36 (by decide) h (fun h => ?_) (fun h => ?_)
    · exact L54 x1 x2 _ _ _ ls hP hS (lv_sub hl [0, 1, 2] rfl) h
    · refine lv_iload_n hx hb dX8_place_39 rfl (lv_at hl 1 rfl) ?_
      refine lv_aload_n hx hb dX8_place_40 rfl (lv_at hl 0 rfl) ?_
      refine z_get hx hb hU uU_X8 hown hK hP (p_101 hW) rfl rfl 12 (by decide) (hU _ uF_X8_112) rfl dX8_place_41 ?_
      refine lv_imul hx hb dX8_place_44 ?_
      refine lv_aload_n hx hb dX8_place_45 rfl (lv_at hl 0 rfl) ?_
      refine z_get hx hb hU uU_X8 hown hK hP (p_101 hW) rfl rfl 11 (by decide) (hU _ uF_X8_115) rfl dX8_place_46 ?_
      refine lv_iload_n hx hb dX8_place_49 rfl (lv_at hl 2 rfl) ?_
      refine lv_imul hx hb dX8_place_50 ?_
      refine z_icmp_le (tgt := 64) hx hb dX8_place_51 (by decide) h (fun h => ?_) (fun h => ?_)
      · exact L64  _ _ _ ls hP hS (lv_sub hl [0] rfl) h
      · exact L54 x1 x2 _ _ _ ls hP hS (lv_sub hl [0, 1, 2] rfl) h
  have L22 : ∀ (x1 : Int32) (x2 : Int32) (S : zT) (H : Heap) (locs : List Loc) (ls : Array Slot), va_P (dC, dI) vwCl (zWd cI cW q S) H → va_S (zA cW q) s.heap H locs → lv_has ls 3 [(0, .ref (q 101)), (1, .int x1), (2, .int x2)] → (fX8_place_22 fX8_place_32) x1 x2 S = some o → W p l e rmX8_place s m args below meth c H locs 0 0 Q (F0 m 22 ls []) := by
    intro x1 x2 S H locs ls hP hS hl h
    unfold fX8_place_22 at h
    refine lv_aload_n hx hb dX8_place_22 rfl (lv_at hl 0 rfl) ?_
    refine lv_iload_n hx hb dX8_place_23 rfl (lv_at hl 1 rfl) ?_
    refine z_puti hx hb hU uU_X8 tyX8 tyX8_ok nmX8 hown hq hK hP hS (p_101 hW) rfl rfl 9 (by decide) (hU _ uF_X8_109) rfl rfl rfl (Nat.le_of_ble_eq_true rfl) rfl dX8_place_24 h (fun S_4 H locs hP hS h => ?_)
    refine lv_aload_n hx hb dX8_place_27 rfl (lv_at hl 0 rfl) ?_
    refine lv_iload_n hx hb dX8_place_28 rfl (lv_at hl 2 rfl) ?_
    refine z_puti hx hb hU uU_X8 tyX8 tyX8_ok nmX8 hown hq hK hP hS (p_101 hW) rfl rfl 10 (by decide) (hU _ uF_X8_106) rfl rfl rfl (Nat.le_of_ble_eq_true rfl) rfl dX8_place_29 h (fun S_5 H locs hP hS h => ?_)
    exact L32 x1 x2 _ _ _ ls hP hS (lv_sub hl [0, 1, 2] rfl) h
  refine lv_aload_n hx hb dX8_place_0 rfl (lv_at hl 0 rfl) ?_
  refine z_get hx hb hU uU_X8 hown hK hP (p_101 hW) rfl rfl 8 (by decide) (hU _ uF_X8_103) rfl dX8_place_1 ?_
  refine z_if_eq (tgt := 22) hx hb dX8_place_4 (by decide) h (fun h => ?_) (fun h => ?_)
  · exact L22 a1 a2 _ _ _ ls hP hS (lv_sub hl [0, 1, 2] rfl) h
  · refine lv_iload_n hx hb dX8_place_7 rfl (lv_at hl 1 rfl) ?_
    refine lv_aload_n hx hb dX8_place_8 rfl (lv_at hl 0 rfl) ?_
    refine z_get hx hb hU uU_X8 hown hK hP (p_101 hW) rfl rfl 10 (by decide) (hU _ uF_X8_106) rfl dX8_place_9 ?_
    refine lv_imul hx hb dX8_place_12 ?_
    refine lv_aload_n hx hb dX8_place_13 rfl (lv_at hl 0 rfl) ?_
    refine z_get hx hb hU uU_X8 hown hK hP (p_101 hW) rfl rfl 9 (by decide) (hU _ uF_X8_109) rfl dX8_place_14 ?_
    refine lv_iload_n hx hb dX8_place_17 rfl (lv_at hl 2 rfl) ?_
    refine lv_imul hx hb dX8_place_18 ?_
    refine z_icmp_ge (tgt := 32) hx hb dX8_place_19 (by decide) h (fun h => ?_) (fun h => ?_)
    · exact L32 a1 a2 _ _ _ ls hP hS (lv_sub hl [0, 1, 2] rfl) h
    · exact L22 a1 a2 _ _ _ ls hP hS (lv_sub hl [0, 1, 2] rfl) h

def fX8_spans_122 (k38 : Int32 → Int32 → Int32 → zT → Option zT) (x1 : Int32) (x2 : Int32) (x3 : Int32) (S : zT) : Option zT :=
  k38 x1 x2 (x3 + 1) S
def fX8_spans_38 (k7 : Int32 → Int32 → zT → Option zT) (rec : Int32 → Int32 → Int32 → zT → Option zT) (x1 : Int32) (x2 : Int32) (x3 : Int32) (S : zT) : Option zT :=
  (if (S.1 101 5) ≤ x3 then k7 x1 (x2 + 1) S else if ¬ (x2 < 0 ∨ 8 ≤ x2.toNatClampNeg) then (if x1 ≤ (S.1 104 x2.toNatClampNeg) then (fX8_spans_122 rec) x1 x2 x3 S else if ¬ (x3 < 0 ∨ 8 ≤ x3.toNatClampNeg) then (if x1 < (S.1 104 x3.toNatClampNeg) then if ¬ (x3 < 0 ∨ 8 ≤ x3.toNatClampNeg) then if ¬ (x2 < 0 ∨ 8 ≤ x2.toNatClampNeg) then if ¬ (x2 < 0 ∨ 8 ≤ x2.toNatClampNeg) then if ¬ (x3 < 0 ∨ 8 ≤ x3.toNatClampNeg) then if ¬ (x2 < 0 ∨ 8 ≤ x2.toNatClampNeg) then if ¬ (x2 < 0 ∨ 8 ≤ x2.toNatClampNeg) then zbv (fX8_place (((S.1 105 x2.toNatClampNeg) * ((S.1 104 x3.toNatClampNeg) - (S.1 104 x2.toNatClampNeg))) + (((S.1 105 x3.toNatClampNeg) - (S.1 105 x2.toNatClampNeg)) * (x1 - (S.1 104 x2.toNatClampNeg)))) ((S.1 104 x3.toNatClampNeg) - (S.1 104 x2.toNatClampNeg)) S) fun S_1 =>
  (fX8_spans_122 rec) x1 x2 x3 S_1 else none else none else none else none else none else none else (fX8_spans_122 rec) x1 x2 x3 S) else none) else none)
def fX8_spans_36 (k7 : Int32 → Int32 → zT → Option zT) (x1 : Int32) (x2 : Int32) (S : zT) : Option zT :=
  (zfix (fun _ _ _ _ => none) (fX8_spans_38 k7) zF) x1 x2 0 S
def fX8_spans_7 (rec : Int32 → Int32 → zT → Option zT) (x1 : Int32) (x2 : Int32) (S : zT) : Option zT :=
  (if (S.1 101 5) ≤ x2 then some S else if ¬ (x2 < 0 ∨ 8 ≤ x2.toNatClampNeg) then (if (S.1 104 x2.toNatClampNeg) = x1 then if ¬ (x2 < 0 ∨ 8 ≤ x2.toNatClampNeg) then zbv (fX8_place (S.1 105 x2.toNatClampNeg) 1 S) fun S_2 =>
  (fX8_spans_36 rec) x1 x2 S_2 else none else (fX8_spans_36 rec) x1 x2 S) else none)
def fX8_spans (a1 : Int32) (S : zT) : Option zT :=
  zlet (zsi S 101 8 0) fun S_3 =>
  (zfix (fun _ _ _ => none) fX8_spans_7 zF) a1 0 S_3
abbrev rmX8_spans : Room := { frames := 1, cells := 0, slots := 0, locals := 22 }
theorem yd_X8_spans : yX8_spans.cls = RX8 ∧ yX8_spans.cls ≠ "java/lang/invoke/MethodHandle" ∧ yX8_spans.cls ≠ "java/lang/invoke/VarHandle" ∧ (parseMethodDescriptor yX8_spans.desc).map (fun d => d.parameters.length) = some 1 := by decide +kernel
set_option maxRecDepth 100000 in
set_option maxHeartbeats 4000000 in
theorem ctX8_spans {l : Launch} {dC : Nat → ClassId} {dI : Nat → Nat → Nat} {cI : ClassId × ClassId} {cW : List zSh} {q : Nat → Nat} (hq : zI cW q) (hW : zIs cI cW) {a1 : Int32} {S : zT} {o : zT} (h : fX8_spans a1 S = some o) : zCv l dC dI cI cW q yX8_spans (Cond.code yX8_spans cX8_spans 5 none :: zU) rmX8_spans [.ref (q 101), .int a1] S o := by
  refine zMet_v (lv := [(0, .ref (q 101)), (1, .int a1)]) (by decide) (Nat.le_of_ble_eq_true rfl) rfl ?_
  intro p e s m args below meth c Q hx hb hml hr hU hown hlocks hK hN hP hS ls hl hQ
  replace hown : s.vm.findClass RX8 = some m.cls := hown
  unfold fX8_spans at h
  have L7 : ∀ (n7 : Nat) (x1 : Int32) (x2 : Int32) (S : zT) (H : Heap) (locs : List Loc) (ls : Array Slot), va_P (dC, dI) vwCl (zWd cI cW q S) H → va_S (zA cW q) s.heap H locs → lv_has ls 5 [(0, .ref (q 101)), (1, .int x1), (2, .int x2)] → (zfix (fun _ _ _ => none) fX8_spans_7 n7) x1 x2 S = some o → W p l e rmX8_spans s m args below meth c H locs 0 0 Q (F0 m 7 ls []) := by
    intro n7
    induction n7 with
    | zero => intro x1 x2 S H locs ls hP hS hl h; exact zno (show (none : Option zT) = some o from h)
    | succ n7 ih7 =>
      intro x1 x2 S H locs ls hP hS hl h
      replace h : fX8_spans_7 (zfix (fun _ _ _ => none) fX8_spans_7 n7) x1 x2 S = some o := h
      unfold fX8_spans_7 at h
      have L36 : ∀ (x1 : Int32) (x2 : Int32) (S : zT) (H : Heap) (locs : List Loc) (ls : Array Slot), va_P (dC, dI) vwCl (zWd cI cW q S) H → va_S (zA cW q) s.heap H locs → lv_has ls 5 [(0, .ref (q 101)), (1, .int x1), (2, .int x2)] → (fX8_spans_36 (zfix (fun _ _ _ => none) fX8_spans_7 n7)) x1 x2 S = some o → W p l e rmX8_spans s m args below meth c H locs 0 0 Q (F0 m 36 ls []) := by
        intro x1 x2 S H locs ls hP hS hl h
        unfold fX8_spans_36 at h
        have L38 : ∀ (n38 : Nat) (x1 : Int32) (x2 : Int32) (x3 : Int32) (S : zT) (H : Heap) (locs : List Loc) (ls : Array Slot), va_P (dC, dI) vwCl (zWd cI cW q S) H → va_S (zA cW q) s.heap H locs → lv_has ls 5 [(0, .ref (q 101)), (1, .int x1), (2, .int x2), (3, .int x3)] → (zfix (fun _ _ _ _ => none) (fX8_spans_38 (zfix (fun _ _ _ => none) fX8_spans_7 n7)) n38) x1 x2 x3 S = some o → W p l e rmX8_spans s m args below meth c H locs 0 0 Q (F0 m 38 ls []) := by
          intro n38
          induction n38 with
          | zero => intro x1 x2 x3 S H locs ls hP hS hl h; exact zno (show (none : Option zT) = some o from h)
          | succ n38 ih38 =>
            intro x1 x2 x3 S H locs ls hP hS hl h
            replace h : fX8_spans_38 (zfix (fun _ _ _ => none) fX8_spans_7 n7) (zfix (fun _ _ _ _ => none) (fX8_spans_38 (zfix (fun _ _ _ => none) fX8_spans_7 n7)) n38) x1 x2 x3 S = some o := h
            unfold fX8_spans_38 at h
            have L122 : ∀ (x1 : Int32) (x2 : Int32) (x3 : Int32) (S : zT) (H : Heap) (locs : List Loc) (ls : Array Slot), va_P (dC, dI) vwCl (zWd cI cW q S) H → va_S (zA cW q) s.heap H locs → lv_has ls 5 [(0, .ref (q 101)), (1, .int x1), (2, .int x2), (3, .int x3)] → (fX8_spans_122 (zfix (fun _ _ _ _ => none) (fX8_spans_38 (zfix (fun _ _ _ => none) fX8_spans_7 n7)) n38)) x1 x2 x3 S = some o → W p l e rmX8_spans s m args below meth c H locs 0 0 Q (F0 m 122 ls []) := by
              intro x1 x2 x3 S H locs ls hP hS hl h
              unfold fX8_spans_122 at h
              refine lv_iinc (v := (x3 + 1)) (lv' := [(3, .int (x3 + 1)), (0, .ref (q 101)), (1, .int x1), (2, .int x2)]) hx hb dX8_spans_122 hl (k := 3) rfl rfl (by decide) rfl (fun ls hl => ?_)
              refine lv_goto (tgt := 38) hx hb dX8_spans_125 (by decide) ?_
              exact ih38 x1 x2 (x3 + 1) _ _ _ ls hP hS (lv_sub hl [1, 2, 3, 0] rfl) h
            refine lv_iload_n hx hb dX8_spans_38 rfl (lv_at hl 3 rfl) ?_
            refine lv_aload_n hx hb dX8_spans_39 rfl (lv_at hl 0 rfl) ?_
            refine z_get hx hb hU uU_X8 hown hK hP (p_101 hW) rfl rfl 5 (by decide) (hU _ uF_X8_100) rfl dX8_spans_40 ?_
            refine z_icmp_ge (tgt := 128) hx hb dX8_spans_43 (by decide) h (fun h => ?_) (fun h => ?_)
            · refine lv_iinc (v := (x2 + 1)) (lv' := [(2, .int (x2 + 1)), (0, .ref (q 101)), (1, .int x1), (3, .int x3)]) hx hb dX8_spans_128 hl (k := 2) rfl rfl (by decide) rfl (fun ls hl => ?_)
              refine lv_goto (tgt := 7) hx hb dX8_spans_131 (by decide) ?_
              exact ih7 x1 (x2 + 1) _ _ _ ls hP hS (lv_sub hl [1, 2, 0] rfl) h
            · refine lv_aload_n hx hb dX8_spans_46 rfl (lv_at hl 0 rfl) ?_
              refine z_get hx hb hU uU_X8 hown hK hP (p_101 hW) rfl rfl 6 (by decide) (hU _ uF_X8_16) rfl dX8_spans_47 ?_
              refine lv_iload_n hx hb dX8_spans_50 rfl (lv_at hl 2 rfl) ?_
              refine z_iald hx hb hK hP (pA_104 hW) dX8_spans_51 h (fun h => ?_)
              refine lv_iload_n hx hb dX8_spans_52 rfl (lv_at hl 1 rfl) ?_
              refine z_icmp_ge (tgt := 122) hx hb dX8_spans_53 (by decide) h (fun h => ?_) (fun h => ?_)
              · exact L122 x1 x2 x3 _ _ _ ls hP hS (lv_sub hl [0, 1, 2, 3] rfl) h
              · refine lv_aload_n hx hb dX8_spans_56 rfl (lv_at hl 0 rfl) ?_
                refine z_get hx hb hU uU_X8 hown hK hP (p_101 hW) rfl rfl 6 (by decide) (hU _ uF_X8_16) rfl dX8_spans_57 ?_
                refine lv_iload_n hx hb dX8_spans_60 rfl (lv_at hl 3 rfl) ?_
                refine z_iald hx hb hK hP (pA_104 hW) dX8_spans_61 h (fun h => ?_)
                refine lv_iload_n hx hb dX8_spans_62 rfl (lv_at hl 1 rfl) ?_
                refine z_icmp_gt (tgt := 69) hx hb dX8_spans_63 (by decide) h (fun h => ?_) (fun h => ?_)
                · refine lv_aload_n hx hb dX8_spans_69 rfl (lv_at hl 0 rfl) ?_
                  refine z_get hx hb hU uU_X8 hown hK hP (p_101 hW) rfl rfl 6 (by decide) (hU _ uF_X8_16) rfl dX8_spans_70 ?_
                  refine lv_iload_n hx hb dX8_spans_73 rfl (lv_at hl 3 rfl) ?_
                  refine z_iald hx hb hK hP (pA_104 hW) dX8_spans_74 h (fun h => ?_)
                  refine lv_aload_n hx hb dX8_spans_75 rfl (lv_at hl 0 rfl) ?_
                  refine z_get hx hb hU uU_X8 hown hK hP (p_101 hW) rfl rfl 6 (by decide) (hU _ uF_X8_16) rfl dX8_spans_76 ?_
                  refine lv_iload_n hx hb dX8_spans_79 rfl (lv_at hl 2 rfl) ?_
                  refine z_iald hx hb hK hP (pA_104 hW) dX8_spans_80 h (fun h => ?_)
                  refine lv_isub hx hb dX8_spans_81 ?_
                  refine lv_istore (lv' := [(4, .int ((S.1 104 x3.toNatClampNeg) - (S.1 104 x2.toNatClampNeg))), (0, .ref (q 101)), (1, .int x1), (2, .int x2), (3, .int x3)]) hx hb dX8_spans_82 hl (by decide) rfl (fun ls hl => ?_)
                  refine lv_aload_n hx hb dX8_spans_84 rfl (lv_at hl 1 rfl) ?_
                  refine lv_aload_n hx hb dX8_spans_85 rfl (lv_at hl 1 rfl) ?_
                  refine z_get hx hb hU uU_X8 hown hK hP (p_101 hW) rfl rfl 7 (by decide) (hU _ uF_X8_19) rfl dX8_spans_86 ?_
                  refine lv_iload_n hx hb dX8_spans_89 rfl (lv_at hl 3 rfl) ?_
                  refine z_iald hx hb hK hP (pA_105 hW) dX8_spans_90 h (fun h => ?_)
                  refine lv_iload hx hb dX8_spans_91 (lv_at hl 0 rfl) ?_
                  refine lv_imul hx hb dX8_spans_93 ?_
                  refine lv_aload_n hx hb dX8_spans_94 rfl (lv_at hl 1 rfl) ?_
                  refine z_get hx hb hU uU_X8 hown hK hP (p_101 hW) rfl rfl 7 (by decide) (hU _ uF_X8_19) rfl dX8_spans_95 ?_
                  refine lv_iload_n hx hb dX8_spans_98 rfl (lv_at hl 4 rfl) ?_
                  refine z_iald hx hb hK hP (pA_105 hW) dX8_spans_99 h (fun h => ?_)
                  refine lv_aload_n hx hb dX8_spans_100 rfl (lv_at hl 1 rfl) ?_
                  refine z_get hx hb hU uU_X8 hown hK hP (p_101 hW) rfl rfl 7 (by decide) (hU _ uF_X8_19) rfl dX8_spans_101 ?_
                  refine lv_iload_n hx hb dX8_spans_104 rfl (lv_at hl 3 rfl) ?_
                  refine z_iald hx hb hK hP (pA_105 hW) dX8_spans_105 h (fun h => ?_)
                  refine lv_isub hx hb dX8_spans_106 ?_
                  refine lv_iload_n hx hb dX8_spans_107 rfl (lv_at hl 2 rfl) ?_
                  refine lv_aload_n hx hb dX8_spans_108 rfl (lv_at hl 1 rfl) ?_
                  refine z_get hx hb hU uU_X8 hown hK hP (p_101 hW) rfl rfl 6 (by decide) (hU _ uF_X8_16) rfl dX8_spans_109 ?_
                  refine lv_iload_n hx hb dX8_spans_112 rfl (lv_at hl 3 rfl) ?_
                  refine z_iald hx hb hK hP (pA_104 hW) dX8_spans_113 h (fun h => ?_)
                  refine lv_isub hx hb dX8_spans_114 ?_
                  refine lv_imul hx hb dX8_spans_115 ?_
                  refine lv_iadd hx hb dX8_spans_116 ?_
                  refine lv_iload hx hb dX8_spans_117 (lv_at hl 0 rfl) ?_
                  refine z_callV_v hx hb hml hown hU hK hN hP hS 2 (p_101 hW) rfl rfl (zU_V uL_X8_118 uI_X8_place uS_X8_place uN_X8 uC_X8_place) yd_X8_place ⟨rfl, rfl⟩ ⟨Nat.le_of_ble_eq_true rfl, Nat.le_of_ble_eq_true rfl⟩ (As := [.int (((S.1 105 x2.toNatClampNeg) * ((S.1 104 x3.toNatClampNeg) - (S.1 104 x2.toNatClampNeg))) + (((S.1 105 x3.toNatClampNeg) - (S.1 105 x2.toNatClampNeg)) * (x1 - (S.1 104 x2.toNatClampNeg)))), .int ((S.1 104 x3.toNatClampNeg) - (S.1 104 x2.toNatClampNeg))]) (fun o h9 => ctX8_place hq hW h9) rfl hl.1 rfl (Nat.le_of_ble_eq_true rfl) dX8_spans_119 ⟨Nat.zero_le _, Nat.zero_le _⟩ h (fun S_1 H locs hP hS h => ?_)
                  exact L122 x1 x2 x3 _ _ _ ls hP hS (lv_sub hl [1, 2, 3, 4] rfl) h
                · refine lv_goto (tgt := 122) hx hb dX8_spans_66 (by decide) ?_
                  exact L122 x1 x2 x3 _ _ _ ls hP hS (lv_sub hl [0, 1, 2, 3] rfl) h
        refine lv_iconst (v := 0) hx hb dX8_spans_36 rfl ?_
        refine lv_istore_n (lv' := [(3, .int 0), (0, .ref (q 101)), (1, .int x1), (2, .int x2)]) hx hb dX8_spans_37 rfl hl (by decide) rfl (fun ls hl => ?_)
        exact L38 zF x1 x2 0 _ _ _ ls hP hS (lv_sub hl [1, 2, 3, 0] rfl) h
      refine lv_iload_n hx hb dX8_spans_7 rfl (lv_at hl 2 rfl) ?_
      refine lv_aload_n hx hb dX8_spans_8 rfl (lv_at hl 0 rfl) ?_
      refine z_get hx hb hU uU_X8 hown hK hP (p_101 hW) rfl rfl 5 (by decide) (hU _ uF_X8_100) rfl dX8_spans_9 ?_
      refine z_icmp_ge (tgt := 134) hx hb dX8_spans_12 (by decide) h (fun h => ?_) (fun h => ?_)
      · exact z_vret hx hb hlocks hP hS hQ hr dX8_spans_134 h
      · refine lv_aload_n hx hb dX8_spans_15 rfl (lv_at hl 0 rfl) ?_
        refine z_get hx hb hU uU_X8 hown hK hP (p_101 hW) rfl rfl 6 (by decide) (hU _ uF_X8_16) rfl dX8_spans_16 ?_
        refine lv_iload_n hx hb dX8_spans_19 rfl (lv_at hl 2 rfl) ?_
        refine z_iald hx hb hK hP (pA_104 hW) dX8_spans_20 h (fun h => ?_)
        refine lv_iload_n hx hb dX8_spans_21 rfl (lv_at hl 1 rfl) ?_
        refine z_icmp_ne (tgt := 36) hx hb dX8_spans_22 (by decide) h (fun h => ?_) (fun h => ?_)
        · exact L36 x1 x2 _ _ _ ls hP hS (lv_sub hl [0, 1, 2] rfl) h
        · refine lv_aload_n hx hb dX8_spans_25 rfl (lv_at hl 0 rfl) ?_
          refine lv_aload_n hx hb dX8_spans_26 rfl (lv_at hl 0 rfl) ?_
          refine z_get hx hb hU uU_X8 hown hK hP (p_101 hW) rfl rfl 7 (by decide) (hU _ uF_X8_19) rfl dX8_spans_27 ?_
          refine lv_iload_n hx hb dX8_spans_30 rfl (lv_at hl 2 rfl) ?_
          refine z_iald hx hb hK hP (pA_105 hW) dX8_spans_31 h (fun h => ?_)
          refine lv_iconst (v := 1) hx hb dX8_spans_32 rfl ?_
          refine z_callV_v hx hb hml hown hU hK hN hP hS 2 (p_101 hW) rfl rfl (zU_V uL_X8_118 uI_X8_place uS_X8_place uN_X8 uC_X8_place) yd_X8_place ⟨rfl, rfl⟩ ⟨Nat.le_of_ble_eq_true rfl, Nat.le_of_ble_eq_true rfl⟩ (As := [.int (S.1 105 x2.toNatClampNeg), .int 1]) (fun o h9 => ctX8_place hq hW h9) rfl hl.1 rfl (Nat.le_of_ble_eq_true rfl) dX8_spans_33 ⟨Nat.zero_le _, Nat.zero_le _⟩ h (fun S_2 H locs hP hS h => ?_)
          exact L36 x1 x2 _ _ _ ls hP hS (lv_sub hl [0, 1, 2] rfl) h
  refine lv_aload_n hx hb dX8_spans_0 rfl (lv_at hl 0 rfl) ?_
  refine lv_iconst (v := 0) hx hb dX8_spans_1 rfl ?_
  refine z_puti hx hb hU uU_X8 tyX8 tyX8_ok nmX8 hown hq hK hP hS (p_101 hW) rfl rfl 8 (by decide) (hU _ uF_X8_103) rfl rfl rfl (Nat.le_of_ble_eq_true rfl) rfl dX8_spans_2 h (fun S_3 H locs hP hS h => ?_)
  refine lv_iconst (v := 0) hx hb dX8_spans_5 rfl ?_
  refine lv_istore_n (lv' := [(2, .int 0), (0, .ref (q 101)), (1, .int a1)]) hx hb dX8_spans_6 rfl hl (by decide) rfl (fun ls hl => ?_)
  exact L7 zF a1 0 _ _ _ ls hP hS (lv_sub hl [1, 2, 0] rfl) h

def fX8_feetAt_47 (k7 : Int32 → Int32 → zT → Option zT) (x1 : Int32) (x2 : Int32) (S : zT) : Option zT :=
  k7 x1 (x2 + 1) S
def fX8_feetAt_7 (rec : Int32 → Int32 → zT → Option zT) (x1 : Int32) (x2 : Int32) (S : zT) : Option zT :=
  (if (S.1 102 0) ≤ x2 then some S else zbi (fX8_isDown x2 x1 S) fun r_2 S_1 =>
  (if r_2 = 0 then (fX8_feetAt_47 rec) x1 x2 S_1 else if ¬ ((7 + x2) < 0 ∨ 48 ≤ (7 + x2).toNatClampNeg) then zbi (fX8_footY x2 x1 S_1) fun r_4 S_3 =>
  zbv (fX8_stand (2 * (S_1.1 102 (7 + x2).toNatClampNeg)) r_4 S_3) fun S_5 =>
  (fX8_feetAt_47 rec) x1 x2 S_5 else none))
def fX8_feetAt (a1 : Int32) (S : zT) : Option zT :=
  zlet (zsi S 101 5 0) fun S_6 =>
  (zfix (fun _ _ _ => none) fX8_feetAt_7 zF) a1 0 S_6
abbrev rmX8_feetAt : Room := { frames := 4, cells := 0, slots := 0, locals := 91 }
theorem yd_X8_feetAt : yX8_feetAt.cls = RX8 ∧ yX8_feetAt.cls ≠ "java/lang/invoke/MethodHandle" ∧ yX8_feetAt.cls ≠ "java/lang/invoke/VarHandle" ∧ (parseMethodDescriptor yX8_feetAt.desc).map (fun d => d.parameters.length) = some 1 := by decide +kernel
set_option maxRecDepth 100000 in
set_option maxHeartbeats 4000000 in
theorem ctX8_feetAt {l : Launch} {dC : Nat → ClassId} {dI : Nat → Nat → Nat} {cI : ClassId × ClassId} {cW : List zSh} {q : Nat → Nat} (hq : zI cW q) (hW : zIs cI cW) {a1 : Int32} {S : zT} {o : zT} (h : fX8_feetAt a1 S = some o) : zCv l dC dI cI cW q yX8_feetAt (Cond.code yX8_feetAt cX8_feetAt 3 none :: zU) rmX8_feetAt [.ref (q 101), .int a1] S o := by
  refine zMet_v (lv := [(0, .ref (q 101)), (1, .int a1)]) (by decide) (Nat.le_of_ble_eq_true rfl) rfl ?_
  intro p e s m args below meth c Q hx hb hml hr hU hown hlocks hK hN hP hS ls hl hQ
  replace hown : s.vm.findClass RX8 = some m.cls := hown
  unfold fX8_feetAt at h
  have L7 : ∀ (n7 : Nat) (x1 : Int32) (x2 : Int32) (S : zT) (H : Heap) (locs : List Loc) (ls : Array Slot), va_P (dC, dI) vwCl (zWd cI cW q S) H → va_S (zA cW q) s.heap H locs → lv_has ls 3 [(0, .ref (q 101)), (1, .int x1), (2, .int x2)] → (zfix (fun _ _ _ => none) fX8_feetAt_7 n7) x1 x2 S = some o → W p l e rmX8_feetAt s m args below meth c H locs 0 0 Q (F0 m 7 ls []) := by
    intro n7
    induction n7 with
    | zero => intro x1 x2 S H locs ls hP hS hl h; exact zno (show (none : Option zT) = some o from h)
    | succ n7 ih7 =>
      intro x1 x2 S H locs ls hP hS hl h
      replace h : fX8_feetAt_7 (zfix (fun _ _ _ => none) fX8_feetAt_7 n7) x1 x2 S = some o := h
      unfold fX8_feetAt_7 at h
      have L47 : ∀ (x1 : Int32) (x2 : Int32) (S : zT) (H : Heap) (locs : List Loc) (ls : Array Slot), va_P (dC, dI) vwCl (zWd cI cW q S) H → va_S (zA cW q) s.heap H locs → lv_has ls 3 [(0, .ref (q 101)), (1, .int x1), (2, .int x2)] → (fX8_feetAt_47 (zfix (fun _ _ _ => none) fX8_feetAt_7 n7)) x1 x2 S = some o → W p l e rmX8_feetAt s m args below meth c H locs 0 0 Q (F0 m 47 ls []) := by
        intro x1 x2 S H locs ls hP hS hl h
        unfold fX8_feetAt_47 at h
        refine lv_iinc (v := (x2 + 1)) (lv' := [(2, .int (x2 + 1)), (0, .ref (q 101)), (1, .int x1)]) hx hb dX8_feetAt_47 hl (k := 2) rfl rfl (by decide) rfl (fun ls hl => ?_)
        refine lv_goto (tgt := 7) hx hb dX8_feetAt_50 (by decide) ?_
        exact ih7 x1 (x2 + 1) _ _ _ ls hP hS (lv_sub hl [1, 2, 0] rfl) h
      refine lv_iload_n hx hb dX8_feetAt_7 rfl (lv_at hl 2 rfl) ?_
      refine lv_aload_n hx hb dX8_feetAt_8 rfl (lv_at hl 0 rfl) ?_
      refine z_get hx hb hU uU_X8 hown hK hP (p_101 hW) rfl rfl 1 (by decide) (hU _ uF_X8_7) rfl dX8_feetAt_9 ?_
      refine lv_iconst (v := 0) hx hb dX8_feetAt_12 rfl ?_
      refine z_ialdC (j := 0) hx hb hK hP (pA_102 hW) dX8_feetAt_13 rfl (by decide) ?_
      refine z_icmp_ge (tgt := 53) hx hb dX8_feetAt_14 (by decide) h (fun h => ?_) (fun h => ?_)
      · exact z_vret hx hb hlocks hP hS hQ hr dX8_feetAt_53 h
      · refine lv_aload_n hx hb dX8_feetAt_17 rfl (lv_at hl 0 rfl) ?_
        refine lv_iload_n hx hb dX8_feetAt_18 rfl (lv_at hl 2 rfl) ?_
        refine lv_iload_n hx hb dX8_feetAt_19 rfl (lv_at hl 1 rfl) ?_
        refine z_callV_i hx hb hml hown hU hK hN hP hS 2 (p_101 hW) rfl rfl (zU_V uL_X8_91 uI_X8_isDown uS_X8_isDown uN_X8 uC_X8_isDown) yd_X8_isDown ⟨rfl, rfl⟩ ⟨Nat.le_of_ble_eq_true rfl, Nat.le_of_ble_eq_true rfl⟩ (As := [.int x2, .int x1]) (fun o h9 => ctX8_isDown hq hW h9) rfl hl.1 rfl (Nat.le_of_ble_eq_true rfl) dX8_feetAt_20 ⟨Nat.zero_le _, Nat.zero_le _⟩ h (fun r_2 S_1 H locs hP hS h => ?_)
        refine z_if_eq (tgt := 47) hx hb dX8_feetAt_23 (by decide) h (fun h => ?_) (fun h => ?_)
        · exact L47 x1 x2 _ _ _ ls hP hS (lv_sub hl [0, 1, 2] rfl) h
        · refine lv_aload_n hx hb dX8_feetAt_26 rfl (lv_at hl 0 rfl) ?_
          refine lv_iconst (v := 2) hx hb dX8_feetAt_27 rfl ?_
          refine lv_aload_n hx hb dX8_feetAt_28 rfl (lv_at hl 0 rfl) ?_
          refine z_get hx hb hU uU_X8 hown hK hP (p_101 hW) rfl rfl 1 (by decide) (hU _ uF_X8_7) rfl dX8_feetAt_29 ?_
          refine lv_bipush (v := 7) hx hb dX8_feetAt_32 rfl ?_
          refine lv_iload_n hx hb dX8_feetAt_34 rfl (lv_at hl 2 rfl) ?_
          refine lv_iadd hx hb dX8_feetAt_35 ?_
          refine z_iald hx hb hK hP (pA_102 hW) dX8_feetAt_36 h (fun h => ?_)
          refine lv_imul hx hb dX8_feetAt_37 ?_
          refine lv_aload_n hx hb dX8_feetAt_38 rfl (lv_at hl 0 rfl) ?_
          refine lv_iload_n hx hb dX8_feetAt_39 rfl (lv_at hl 2 rfl) ?_
          refine lv_iload_n hx hb dX8_feetAt_40 rfl (lv_at hl 1 rfl) ?_
          refine z_callV_i hx hb hml hown hU hK hN hP hS 2 (p_101 hW) rfl rfl (zU_V uL_X8_97 uI_X8_footY uS_X8_footY uN_X8 uC_X8_footY) yd_X8_footY ⟨rfl, rfl⟩ ⟨Nat.le_of_ble_eq_true rfl, Nat.le_of_ble_eq_true rfl⟩ (As := [.int x2, .int x1]) (fun o h9 => ctX8_footY hq hW h9) rfl hl.1 rfl (Nat.le_of_ble_eq_true rfl) dX8_feetAt_41 ⟨Nat.zero_le _, Nat.zero_le _⟩ h (fun r_4 S_3 H locs hP hS h => ?_)
          refine z_callV_v hx hb hml hown hU hK hN hP hS 2 (p_101 hW) rfl rfl (zU_V uL_X8_121 uI_X8_stand uS_X8_stand uN_X8 uC_X8_stand) yd_X8_stand ⟨rfl, rfl⟩ ⟨Nat.le_of_ble_eq_true rfl, Nat.le_of_ble_eq_true rfl⟩ (As := [.int (2 * (S_1.1 102 (7 + x2).toNatClampNeg)), .int r_4]) (fun o h9 => ctX8_stand hq hW h9) rfl hl.1 rfl (Nat.le_of_ble_eq_true rfl) dX8_feetAt_44 ⟨Nat.zero_le _, Nat.zero_le _⟩ h (fun S_5 H locs hP hS h => ?_)
          exact L47 x1 x2 _ _ _ ls hP hS (lv_sub hl [0, 1, 2] rfl) h
  refine lv_aload_n hx hb dX8_feetAt_0 rfl (lv_at hl 0 rfl) ?_
  refine lv_iconst (v := 0) hx hb dX8_feetAt_1 rfl ?_
  refine z_puti hx hb hU uU_X8 tyX8 tyX8_ok nmX8 hown hq hK hP hS (p_101 hW) rfl rfl 5 (by decide) (hU _ uF_X8_100) rfl rfl rfl (Nat.le_of_ble_eq_true rfl) rfl dX8_feetAt_2 h (fun S_6 H locs hP hS h => ?_)
  refine lv_iconst (v := 0) hx hb dX8_feetAt_5 rfl ?_
  refine lv_istore_n (lv' := [(2, .int 0), (0, .ref (q 101)), (1, .int a1)]) hx hb dX8_feetAt_6 rfl hl (by decide) rfl (fun ls hl => ?_)
  exact L7 zF a1 0 _ _ _ ls hP hS (lv_sub hl [1, 2, 0] rfl) h

def fX8_isWithin (a1 : Int32) (S : zT) : Option (Int32 × zT) :=
  (if (S.1 101 8) = 0 then some (0, S) else (if (a1 * (S.1 101 10)) < (S.1 101 9) then some (0, S) else (if (S.1 101 11) < (a1 * (S.1 101 12)) then some (0, S) else some (1, S))))
abbrev rmX8_isWithin : Room := { frames := 0, cells := 0, slots := 0, locals := 0 }
theorem yd_X8_isWithin : yX8_isWithin.cls = RX8 ∧ yX8_isWithin.cls ≠ "java/lang/invoke/MethodHandle" ∧ yX8_isWithin.cls ≠ "java/lang/invoke/VarHandle" ∧ (parseMethodDescriptor yX8_isWithin.desc).map (fun d => d.parameters.length) = some 1 := by decide +kernel
set_option maxRecDepth 100000 in
set_option maxHeartbeats 4000000 in
theorem ctX8_isWithin {l : Launch} {dC : Nat → ClassId} {dI : Nat → Nat → Nat} {cI : ClassId × ClassId} {cW : List zSh} {q : Nat → Nat} (hq : zI cW q) (hW : zIs cI cW) {a1 : Int32} {S : zT} {o : Int32 × zT} (h : fX8_isWithin a1 S = some o) : zCi l dC dI cI cW q yX8_isWithin (Cond.code yX8_isWithin cX8_isWithin 2 (some .boolean) :: zU) rmX8_isWithin [.ref (q 101), .int a1] S o := by
  refine zMet_i (lv := [(0, .ref (q 101)), (1, .int a1)]) (by decide) (Nat.le_of_ble_eq_true rfl) rfl ?_
  intro p e s m args below meth c Q hx hb hml hr hU hown hlocks hK hN hP hS ls hl hQ
  replace hown : s.vm.findClass RX8 = some m.cls := hown
  unfold fX8_isWithin at h
  refine lv_aload_n hx hb dX8_isWithin_0 rfl (lv_at hl 0 rfl) ?_
  refine z_get hx hb hU uU_X8 hown hK hP (p_101 hW) rfl rfl 8 (by decide) (hU _ uF_X8_103) rfl dX8_isWithin_1 ?_
  refine z_if_eq (tgt := 37) hx hb dX8_isWithin_4 (by decide) h (fun h => ?_) (fun h => ?_)
  · refine lv_iconst (v := 0) hx hb dX8_isWithin_37 rfl ?_
    exact z_zretC hx hb hlocks hP hS hQ hr dX8_isWithin_38 (Or.inl rfl) h
  · refine lv_iload_n hx hb dX8_isWithin_7 rfl (lv_at hl 1 rfl) ?_
    refine lv_aload_n hx hb dX8_isWithin_8 rfl (lv_at hl 0 rfl) ?_
    refine z_get hx hb hU uU_X8 hown hK hP (p_101 hW) rfl rfl 10 (by decide) (hU _ uF_X8_106) rfl dX8_isWithin_9 ?_
    refine lv_imul hx hb dX8_isWithin_12 ?_
    refine lv_aload_n hx hb dX8_isWithin_13 rfl (lv_at hl 0 rfl) ?_
    refine z_get hx hb hU uU_X8 hown hK hP (p_101 hW) rfl rfl 9 (by decide) (hU _ uF_X8_109) rfl dX8_isWithin_14 ?_
    refine z_icmp_lt (tgt := 37) hx hb dX8_isWithin_17 (by decide) h (fun h => ?_) (fun h => ?_)
    · refine lv_iconst (v := 0) hx hb dX8_isWithin_37 rfl ?_
      exact z_zretC hx hb hlocks hP hS hQ hr dX8_isWithin_38 (Or.inl rfl) h
    · refine lv_iload_n hx hb dX8_isWithin_20 rfl (lv_at hl 1 rfl) ?_
      refine lv_aload_n hx hb dX8_isWithin_21 rfl (lv_at hl 0 rfl) ?_
      refine z_get hx hb hU uU_X8 hown hK hP (p_101 hW) rfl rfl 12 (by decide) (hU _ uF_X8_112) rfl dX8_isWithin_22 ?_
      refine lv_imul hx hb dX8_isWithin_25 ?_
      refine lv_aload_n hx hb dX8_isWithin_26 rfl (lv_at hl 0 rfl) ?_
      refine z_get hx hb hU uU_X8 hown hK hP (p_101 hW) rfl rfl 11 (by decide) (hU _ uF_X8_115) rfl dX8_isWithin_27 ?_
      refine z_icmp_gt (tgt := 37) hx hb dX8_isWithin_30 (by decide) h (fun h => ?_) (fun h => ?_)
      · refine lv_iconst (v := 0) hx hb dX8_isWithin_37 rfl ?_
        exact z_zretC hx hb hlocks hP hS hQ hr dX8_isWithin_38 (Or.inl rfl) h
      · refine lv_iconst (v := 1) hx hb dX8_isWithin_33 rfl ?_
        refine lv_goto (tgt := 38) hx hb dX8_isWithin_34 (by decide) ?_
        exact z_zretC hx hb hlocks hP hS hQ hr dX8_isWithin_38 (Or.inr rfl) h

def fX8_isPairs_2 (rec : Int32 → Int32 → zT → Option (Int32 × zT)) (x1 : Int32) (x2 : Int32) (S : zT) : Option (Int32 × zT) :=
  (if (S.1 102 0) ≤ (x2 + 1) then some (1, S) else (if ((zshr x1 x2) &&& 1) = ((zshr x1 (x2 + 1)) &&& 1) then rec x1 (x2 + 2) S else some (0, S)))
def fX8_isPairs (a1 : Int32) (S : zT) : Option (Int32 × zT) :=
  (zfix (fun _ _ _ => none) fX8_isPairs_2 zF) a1 0 S
abbrev rmX8_isPairs : Room := { frames := 0, cells := 0, slots := 0, locals := 0 }
theorem yd_X8_isPairs : yX8_isPairs.cls = RX8 ∧ yX8_isPairs.cls ≠ "java/lang/invoke/MethodHandle" ∧ yX8_isPairs.cls ≠ "java/lang/invoke/VarHandle" ∧ (parseMethodDescriptor yX8_isPairs.desc).map (fun d => d.parameters.length) = some 1 := by decide +kernel
set_option maxRecDepth 100000 in
set_option maxHeartbeats 4000000 in
theorem ctX8_isPairs {l : Launch} {dC : Nat → ClassId} {dI : Nat → Nat → Nat} {cI : ClassId × ClassId} {cW : List zSh} {q : Nat → Nat} (hq : zI cW q) (hW : zIs cI cW) {a1 : Int32} {S : zT} {o : Int32 × zT} (h : fX8_isPairs a1 S = some o) : zCi l dC dI cI cW q yX8_isPairs (Cond.code yX8_isPairs cX8_isPairs 3 (some .boolean) :: zU) rmX8_isPairs [.ref (q 101), .int a1] S o := by
  refine zMet_i (lv := [(0, .ref (q 101)), (1, .int a1)]) (by decide) (Nat.le_of_ble_eq_true rfl) rfl ?_
  intro p e s m args below meth c Q hx hb hml hr hU hown hlocks hK hN hP hS ls hl hQ
  replace hown : s.vm.findClass RX8 = some m.cls := hown
  unfold fX8_isPairs at h
  have L2 : ∀ (n2 : Nat) (x1 : Int32) (x2 : Int32) (S : zT) (H : Heap) (locs : List Loc) (ls : Array Slot), va_P (dC, dI) vwCl (zWd cI cW q S) H → va_S (zA cW q) s.heap H locs → lv_has ls 3 [(0, .ref (q 101)), (1, .int x1), (2, .int x2)] → (zfix (fun _ _ _ => none) fX8_isPairs_2 n2) x1 x2 S = some o → W p l e rmX8_isPairs s m args below meth c H locs 0 0 Q (F0 m 2 ls []) := by
    intro n2
    induction n2 with
    | zero => intro x1 x2 S H locs ls hP hS hl h; exact zno (show (none : Option (Int32 × zT)) = some o from h)
    | succ n2 ih2 =>
      intro x1 x2 S H locs ls hP hS hl h
      replace h : fX8_isPairs_2 (zfix (fun _ _ _ => none) fX8_isPairs_2 n2) x1 x2 S = some o := h
      unfold fX8_isPairs_2 at h
      refine lv_iload_n hx hb dX8_isPairs_2 rfl (lv_at hl 2 rfl) ?_
      refine lv_iconst (v := 1) hx hb dX8_isPairs_3 rfl ?_
      refine lv_iadd hx hb dX8_isPairs_4 ?_
      refine lv_aload_n hx hb dX8_isPairs_5 rfl (lv_at hl 0 rfl) ?_
      refine z_get hx hb hU uU_X8 hown hK hP (p_101 hW) rfl rfl 1 (by decide) (hU _ uF_X8_7) rfl dX8_isPairs_6 ?_
      refine lv_iconst (v := 0) hx hb dX8_isPairs_9 rfl ?_
      refine z_ialdC (j := 0) hx hb hK hP (pA_102 hW) dX8_isPairs_10 rfl (by decide) ?_
      refine z_icmp_ge (tgt := 38) hx hb dX8_isPairs_11 (by decide) h (fun h => ?_) (fun h => ?_)
      · refine lv_iconst (v := 1) hx hb dX8_isPairs_38 rfl ?_
        exact z_zretC hx hb hlocks hP hS hQ hr dX8_isPairs_39 (Or.inr rfl) h
      · refine lv_iload_n hx hb dX8_isPairs_14 rfl (lv_at hl 1 rfl) ?_
        refine lv_iload_n hx hb dX8_isPairs_15 rfl (lv_at hl 2 rfl) ?_
        refine lv_ishr hx hb dX8_isPairs_16 ?_
        refine lv_iconst (v := 1) hx hb dX8_isPairs_17 rfl ?_
        refine lv_iand hx hb dX8_isPairs_18 ?_
        refine lv_iload_n hx hb dX8_isPairs_19 rfl (lv_at hl 1 rfl) ?_
        refine lv_iload_n hx hb dX8_isPairs_20 rfl (lv_at hl 2 rfl) ?_
        refine lv_iconst (v := 1) hx hb dX8_isPairs_21 rfl ?_
        refine lv_iadd hx hb dX8_isPairs_22 ?_
        refine lv_ishr hx hb dX8_isPairs_23 ?_
        refine lv_iconst (v := 1) hx hb dX8_isPairs_24 rfl ?_
        refine lv_iand hx hb dX8_isPairs_25 ?_
        refine z_icmp_eq (tgt := 31) hx hb dX8_isPairs_26 (by decide) h (fun h => ?_) (fun h => ?_)
        · refine lv_iload_n hx hb dX8_isPairs_31 rfl (lv_at hl 2 rfl) ?_
          refine lv_iconst (v := 2) hx hb dX8_isPairs_32 rfl ?_
          refine lv_iadd hx hb dX8_isPairs_33 ?_
          refine lv_istore_n (lv' := [(2, .int (x2 + 2)), (0, .ref (q 101)), (1, .int x1)]) hx hb dX8_isPairs_34 rfl hl (by decide) rfl (fun ls hl => ?_)
          refine lv_goto (tgt := 2) hx hb dX8_isPairs_35 (by decide) ?_
          exact ih2 x1 (x2 + 2) _ _ _ ls hP hS (lv_sub hl [1, 2, 0] rfl) h
        · refine lv_iconst (v := 0) hx hb dX8_isPairs_29 rfl ?_
          exact z_zretC hx hb hlocks hP hS hQ hr dX8_isPairs_30 (Or.inl rfl) h
  refine lv_iconst (v := 0) hx hb dX8_isPairs_0 rfl ?_
  refine lv_istore_n (lv' := [(2, .int 0), (0, .ref (q 101)), (1, .int a1)]) hx hb dX8_isPairs_1 rfl hl (by decide) rfl (fun ls hl => ?_)
  exact L2 zF a1 0 _ _ _ ls hP hS (lv_sub hl [1, 2, 0] rfl) h

def fX8_isFlying_96 (x2 : Int32) (x3 : Int32) (S : zT) : Option (Int32 × zT) :=
  (if 2 < (x3 + x2) then some (0, S) else (if (S.1 102 6) ≤ (x3 + x2) then some (0, S) else some (1, S)))
def fX8_isFlying_44 (rec : Int32 → Int32 → Int32 → zT → Option (Int32 × zT)) (x1 : Int32) (x2 : Int32) (x3 : Int32) (S : zT) : Option (Int32 × zT) :=
  (if (S.1 102 6) ≤ x3 then fX8_isFlying_96 x2 x3 S else if ¬ (S.1 102 6) = 0 then if ¬ ((23 + ((((x1 - x3) - 1) + (2 * (S.1 102 6))) - (((x1 - x3) - 1) + (2 * (S.1 102 6))) / (S.1 102 6) * (S.1 102 6))) < 0 ∨ 48 ≤ (23 + ((((x1 - x3) - 1) + (2 * (S.1 102 6))) - (((x1 - x3) - 1) + (2 * (S.1 102 6))) / (S.1 102 6) * (S.1 102 6))).toNatClampNeg) then (if (S.1 102 (23 + ((((x1 - x3) - 1) + (2 * (S.1 102 6))) - (((x1 - x3) - 1) + (2 * (S.1 102 6))) / (S.1 102 6) * (S.1 102 6))).toNatClampNeg) = 0 then rec x1 x2 (x3 + 1) S else fX8_isFlying_96 x2 x3 S) else none else none)
def fX8_isFlying_42 (x1 : Int32) (x2 : Int32) (S : zT) : Option (Int32 × zT) :=
  (zfix (fun _ _ _ _ => none) fX8_isFlying_44 zF) x1 x2 0 S
def fX8_isFlying_2 (rec : Int32 → Int32 → zT → Option (Int32 × zT)) (x1 : Int32) (x2 : Int32) (S : zT) : Option (Int32 × zT) :=
  (if (S.1 102 6) ≤ x2 then fX8_isFlying_42 x1 x2 S else if ¬ (S.1 102 6) = 0 then if ¬ ((23 + ((x1 + x2) - (x1 + x2) / (S.1 102 6) * (S.1 102 6))) < 0 ∨ 48 ≤ (23 + ((x1 + x2) - (x1 + x2) / (S.1 102 6) * (S.1 102 6))).toNatClampNeg) then (if (S.1 102 (23 + ((x1 + x2) - (x1 + x2) / (S.1 102 6) * (S.1 102 6))).toNatClampNeg) = 0 then rec x1 (x2 + 1) S else fX8_isFlying_42 x1 x2 S) else none else none)
def fX8_isFlying (a1 : Int32) (S : zT) : Option (Int32 × zT) :=
  (zfix (fun _ _ _ => none) fX8_isFlying_2 zF) a1 0 S
abbrev rmX8_isFlying : Room := { frames := 0, cells := 0, slots := 0, locals := 0 }
theorem yd_X8_isFlying : yX8_isFlying.cls = RX8 ∧ yX8_isFlying.cls ≠ "java/lang/invoke/MethodHandle" ∧ yX8_isFlying.cls ≠ "java/lang/invoke/VarHandle" ∧ (parseMethodDescriptor yX8_isFlying.desc).map (fun d => d.parameters.length) = some 1 := by decide +kernel
set_option maxRecDepth 100000 in
set_option maxHeartbeats 4000000 in
theorem ctX8_isFlying {l : Launch} {dC : Nat → ClassId} {dI : Nat → Nat → Nat} {cI : ClassId × ClassId} {cW : List zSh} {q : Nat → Nat} (hq : zI cW q) (hW : zIs cI cW) {a1 : Int32} {S : zT} {o : Int32 × zT} (h : fX8_isFlying a1 S = some o) : zCi l dC dI cI cW q yX8_isFlying (Cond.code yX8_isFlying cX8_isFlying 4 (some .boolean) :: zU) rmX8_isFlying [.ref (q 101), .int a1] S o := by
  refine zMet_i (lv := [(0, .ref (q 101)), (1, .int a1)]) (by decide) (Nat.le_of_ble_eq_true rfl) rfl ?_
  intro p e s m args below meth c Q hx hb hml hr hU hown hlocks hK hN hP hS ls hl hQ
  replace hown : s.vm.findClass RX8 = some m.cls := hown
  unfold fX8_isFlying at h
  have L2 : ∀ (n2 : Nat) (x1 : Int32) (x2 : Int32) (S : zT) (H : Heap) (locs : List Loc) (ls : Array Slot), va_P (dC, dI) vwCl (zWd cI cW q S) H → va_S (zA cW q) s.heap H locs → lv_has ls 4 [(0, .ref (q 101)), (1, .int x1), (2, .int x2)] → (zfix (fun _ _ _ => none) fX8_isFlying_2 n2) x1 x2 S = some o → W p l e rmX8_isFlying s m args below meth c H locs 0 0 Q (F0 m 2 ls []) := by
    intro n2
    induction n2 with
    | zero => intro x1 x2 S H locs ls hP hS hl h; exact zno (show (none : Option (Int32 × zT)) = some o from h)
    | succ n2 ih2 =>
      intro x1 x2 S H locs ls hP hS hl h
      replace h : fX8_isFlying_2 (zfix (fun _ _ _ => none) fX8_isFlying_2 n2) x1 x2 S = some o := h
      unfold fX8_isFlying_2 at h
      have L42 : ∀ (x1 : Int32) (x2 : Int32) (S : zT) (H : Heap) (locs : List Loc) (ls : Array Slot), va_P (dC, dI) vwCl (zWd cI cW q S) H → va_S (zA cW q) s.heap H locs → lv_has ls 4 [(0, .ref (q 101)), (1, .int x1), (2, .int x2)] → fX8_isFlying_42 x1 x2 S = some o → W p l e rmX8_isFlying s m args below meth c H locs 0 0 Q (F0 m 42 ls []) := by
        intro x1 x2 S H locs ls hP hS hl h
        unfold fX8_isFlying_42 at h
        have L44 : ∀ (n44 : Nat) (x1 : Int32) (x2 : Int32) (x3 : Int32) (S : zT) (H : Heap) (locs : List Loc) (ls : Array Slot), va_P (dC, dI) vwCl (zWd cI cW q S) H → va_S (zA cW q) s.heap H locs → lv_has ls 4 [(0, .ref (q 101)), (1, .int x1), (2, .int x2), (3, .int x3)] → (zfix (fun _ _ _ _ => none) fX8_isFlying_44 n44) x1 x2 x3 S = some o → W p l e rmX8_isFlying s m args below meth c H locs 0 0 Q (F0 m 44 ls []) := by
          intro n44
          induction n44 with
          | zero => intro x1 x2 x3 S H locs ls hP hS hl h; exact zno (show (none : Option (Int32 × zT)) = some o from h)
          | succ n44 ih44 =>
            intro x1 x2 x3 S H locs ls hP hS hl h
            replace h : fX8_isFlying_44 (zfix (fun _ _ _ _ => none) fX8_isFlying_44 n44) x1 x2 x3 S = some o := h
            unfold fX8_isFlying_44 at h
            have L96 : ∀ (x2 : Int32) (x3 : Int32) (S : zT) (H : Heap) (locs : List Loc) (ls : Array Slot), va_P (dC, dI) vwCl (zWd cI cW q S) H → va_S (zA cW q) s.heap H locs → lv_has ls 4 [(0, .ref (q 101)), (2, .int x2), (3, .int x3)] → fX8_isFlying_96 x2 x3 S = some o → W p l e rmX8_isFlying s m args below meth c H locs 0 0 Q (F0 m 96 ls []) := by
              intro x2 x3 S H locs ls hP hS hl h
              unfold fX8_isFlying_96 at h
              refine lv_iload_n hx hb dX8_isFlying_96 rfl (lv_at hl 2 rfl) ?_
              refine lv_iload_n hx hb dX8_isFlying_97 rfl (lv_at hl 1 rfl) ?_
              refine lv_iadd hx hb dX8_isFlying_98 ?_
              refine lv_iconst (v := 2) hx hb dX8_isFlying_99 rfl ?_
              refine z_icmp_gt (tgt := 120) hx hb dX8_isFlying_100 (by decide) h (fun h => ?_) (fun h => ?_)
              · refine lv_iconst (v := 0) hx hb dX8_isFlying_120 rfl ?_
                exact z_zretC hx hb hlocks hP hS hQ hr dX8_isFlying_121 (Or.inl rfl) h
              · refine lv_iload_n hx hb dX8_isFlying_103 rfl (lv_at hl 2 rfl) ?_
                refine lv_iload_n hx hb dX8_isFlying_104 rfl (lv_at hl 1 rfl) ?_
                refine lv_iadd hx hb dX8_isFlying_105 ?_
                refine lv_aload_n hx hb dX8_isFlying_106 rfl (lv_at hl 0 rfl) ?_
                refine z_get hx hb hU uU_X8 hown hK hP (p_101 hW) rfl rfl 1 (by decide) (hU _ uF_X8_7) rfl dX8_isFlying_107 ?_
                refine lv_bipush (v := 6) hx hb dX8_isFlying_110 rfl ?_
                refine z_ialdC (j := 6) hx hb hK hP (pA_102 hW) dX8_isFlying_112 rfl (by decide) ?_
                refine z_icmp_ge (tgt := 120) hx hb dX8_isFlying_113 (by decide) h (fun h => ?_) (fun h => ?_)
                · refine lv_iconst (v := 0) hx hb dX8_isFlying_120 rfl ?_
                  exact z_zretC hx hb hlocks hP hS hQ hr dX8_isFlying_121 (Or.inl rfl) h
                · refine lv_iconst (v := 1) hx hb dX8_isFlying_116 rfl ?_
                  refine lv_goto (tgt := 121) hx hb dX8_isFlying_117 (by decide) ?_
                  exact z_zretC hx hb hlocks hP hS hQ hr dX8_isFlying_121 (Or.inr rfl) h
            refine lv_iload_n hx hb dX8_isFlying_44 rfl (lv_at hl 3 rfl) ?_
            refine lv_aload_n hx hb dX8_isFlying_45 rfl (lv_at hl 0 rfl) ?_
            refine z_get hx hb hU uU_X8 hown hK hP (p_101 hW) rfl rfl 1 (by decide) (hU _ uF_X8_7) rfl dX8_isFlying_46 ?_
            refine lv_bipush (v := 6) hx hb dX8_isFlying_49 rfl ?_
            refine z_ialdC (j := 6) hx hb hK hP (pA_102 hW) dX8_isFlying_51 rfl (by decide) ?_
            refine z_icmp_ge (tgt := 96) hx hb dX8_isFlying_52 (by decide) h (fun h => ?_) (fun h => ?_)
            · exact L96 x2 x3 _ _ _ ls hP hS (lv_sub hl [0, 2, 3] rfl) h
            · refine lv_aload_n hx hb dX8_isFlying_55 rfl (lv_at hl 0 rfl) ?_
              refine z_get hx hb hU uU_X8 hown hK hP (p_101 hW) rfl rfl 1 (by decide) (hU _ uF_X8_7) rfl dX8_isFlying_56 ?_
              refine lv_bipush (v := 23) hx hb dX8_isFlying_59 rfl ?_
              refine lv_iload_n hx hb dX8_isFlying_61 rfl (lv_at hl 1 rfl) ?_
              refine lv_iload_n hx hb dX8_isFlying_62 rfl (lv_at hl 3 rfl) ?_
              refine lv_isub hx hb dX8_isFlying_63 ?_
              refine lv_iconst (v := 1) hx hb dX8_isFlying_64 rfl ?_
              refine lv_isub hx hb dX8_isFlying_65 ?_
              refine lv_iconst (v := 2) hx hb dX8_isFlying_66 rfl ?_
              refine lv_aload_n hx hb dX8_isFlying_67 rfl (lv_at hl 0 rfl) ?_
              refine z_get hx hb hU uU_X8 hown hK hP (p_101 hW) rfl rfl 1 (by decide) (hU _ uF_X8_7) rfl dX8_isFlying_68 ?_
              refine lv_bipush (v := 6) hx hb dX8_isFlying_71 rfl ?_
              refine z_ialdC (j := 6) hx hb hK hP (pA_102 hW) dX8_isFlying_73 rfl (by decide) ?_
              refine lv_imul hx hb dX8_isFlying_74 ?_
              refine lv_iadd hx hb dX8_isFlying_75 ?_
              refine lv_aload_n hx hb dX8_isFlying_76 rfl (lv_at hl 0 rfl) ?_
              refine z_get hx hb hU uU_X8 hown hK hP (p_101 hW) rfl rfl 1 (by decide) (hU _ uF_X8_7) rfl dX8_isFlying_77 ?_
              refine lv_bipush (v := 6) hx hb dX8_isFlying_80 rfl ?_
              refine z_ialdC (j := 6) hx hb hK hP (pA_102 hW) dX8_isFlying_82 rfl (by decide) ?_
              refine z_irem hx hb dX8_isFlying_83 h (fun h => ?_)
              refine lv_iadd hx hb dX8_isFlying_84 ?_
              refine z_iald hx hb hK hP (pA_102 hW) dX8_isFlying_85 h (fun h => ?_)
              refine z_if_ne (tgt := 96) hx hb dX8_isFlying_86 (by decide) h (fun h => ?_) (fun h => ?_)
              · exact L96 x2 x3 _ _ _ ls hP hS (lv_sub hl [0, 2, 3] rfl) h
              · refine lv_iload_n hx hb dX8_isFlying_89 rfl (lv_at hl 3 rfl) ?_
                refine lv_iconst (v := 1) hx hb dX8_isFlying_90 rfl ?_
                refine lv_iadd hx hb dX8_isFlying_91 ?_
                refine lv_istore_n (lv' := [(3, .int (x3 + 1)), (0, .ref (q 101)), (1, .int x1), (2, .int x2)]) hx hb dX8_isFlying_92 rfl hl (by decide) rfl (fun ls hl => ?_)
                refine lv_goto (tgt := 44) hx hb dX8_isFlying_93 (by decide) ?_
                exact ih44 x1 x2 (x3 + 1) _ _ _ ls hP hS (lv_sub hl [1, 2, 3, 0] rfl) h
        refine lv_iconst (v := 0) hx hb dX8_isFlying_42 rfl ?_
        refine lv_istore_n (lv' := [(3, .int 0), (0, .ref (q 101)), (1, .int x1), (2, .int x2)]) hx hb dX8_isFlying_43 rfl hl (by decide) rfl (fun ls hl => ?_)
        exact L44 zF x1 x2 0 _ _ _ ls hP hS (lv_sub hl [1, 2, 3, 0] rfl) h
      refine lv_iload_n hx hb dX8_isFlying_2 rfl (lv_at hl 2 rfl) ?_
      refine lv_aload_n hx hb dX8_isFlying_3 rfl (lv_at hl 0 rfl) ?_
      refine z_get hx hb hU uU_X8 hown hK hP (p_101 hW) rfl rfl 1 (by decide) (hU _ uF_X8_7) rfl dX8_isFlying_4 ?_
      refine lv_bipush (v := 6) hx hb dX8_isFlying_7 rfl ?_
      refine z_ialdC (j := 6) hx hb hK hP (pA_102 hW) dX8_isFlying_9 rfl (by decide) ?_
      refine z_icmp_ge (tgt := 42) hx hb dX8_isFlying_10 (by decide) h (fun h => ?_) (fun h => ?_)
      · exact L42 x1 x2 _ _ _ ls hP hS (lv_sub hl [0, 1, 2] rfl) h
      · refine lv_aload_n hx hb dX8_isFlying_13 rfl (lv_at hl 0 rfl) ?_
        refine z_get hx hb hU uU_X8 hown hK hP (p_101 hW) rfl rfl 1 (by decide) (hU _ uF_X8_7) rfl dX8_isFlying_14 ?_
        refine lv_bipush (v := 23) hx hb dX8_isFlying_17 rfl ?_
        refine lv_iload_n hx hb dX8_isFlying_19 rfl (lv_at hl 1 rfl) ?_
        refine lv_iload_n hx hb dX8_isFlying_20 rfl (lv_at hl 2 rfl) ?_
        refine lv_iadd hx hb dX8_isFlying_21 ?_
        refine lv_aload_n hx hb dX8_isFlying_22 rfl (lv_at hl 0 rfl) ?_
        refine z_get hx hb hU uU_X8 hown hK hP (p_101 hW) rfl rfl 1 (by decide) (hU _ uF_X8_7) rfl dX8_isFlying_23 ?_
        refine lv_bipush (v := 6) hx hb dX8_isFlying_26 rfl ?_
        refine z_ialdC (j := 6) hx hb hK hP (pA_102 hW) dX8_isFlying_28 rfl (by decide) ?_
        refine z_irem hx hb dX8_isFlying_29 h (fun h => ?_)
        refine lv_iadd hx hb dX8_isFlying_30 ?_
        refine z_iald hx hb hK hP (pA_102 hW) dX8_isFlying_31 h (fun h => ?_)
        refine z_if_ne (tgt := 42) hx hb dX8_isFlying_32 (by decide) h (fun h => ?_) (fun h => ?_)
        · exact L42 x1 x2 _ _ _ ls hP hS (lv_sub hl [0, 1, 2] rfl) h
        · refine lv_iload_n hx hb dX8_isFlying_35 rfl (lv_at hl 2 rfl) ?_
          refine lv_iconst (v := 1) hx hb dX8_isFlying_36 rfl ?_
          refine lv_iadd hx hb dX8_isFlying_37 ?_
          refine lv_istore_n (lv' := [(2, .int (x2 + 1)), (0, .ref (q 101)), (1, .int x1)]) hx hb dX8_isFlying_38 rfl hl (by decide) rfl (fun ls hl => ?_)
          refine lv_goto (tgt := 2) hx hb dX8_isFlying_39 (by decide) ?_
          exact ih2 x1 (x2 + 1) _ _ _ ls hP hS (lv_sub hl [1, 2, 0] rfl) h
  refine lv_iconst (v := 0) hx hb dX8_isFlying_0 rfl ?_
  refine lv_istore_n (lv' := [(2, .int 0), (0, .ref (q 101)), (1, .int a1)]) hx hb dX8_isFlying_1 rfl hl (by decide) rfl (fun ls hl => ?_)
  exact L2 zF a1 0 _ _ _ ls hP hS (lv_sub hl [1, 2, 0] rfl) h

def fX8_standsAt_30 (x1 : Int32) (x2 : Int32) (S : zT) : Option (Int32 × zT) :=
  (if x2 = 0 then (if (S.1 102 1) = 1 then zbi (fX8_isFlying x1 S) fun r_6 S_5 =>
  (if r_6 = 0 then some (0, S_5) else some (1, S_5)) else some (0, S)) else zbv (fX8_feetAt x1 S) fun S_1 =>
  zbv (fX8_spans (2 * (S_1.1 102 4)) S_1) fun S_2 =>
  zbi (fX8_isWithin (2 * (S_2.1 102 5)) S_2) fun r_4 S_3 =>
  if r_4 = 0 ∨ r_4 = 1 then some (r_4, S_3) else none)
def fX8_standsAt (a1 : Int32) (S : zT) : Option (Int32 × zT) :=
  if ¬ ((23 + a1) < 0 ∨ 48 ≤ (23 + a1).toNatClampNeg) then (if (S.1 102 1) = 2 then zbi (fX8_isPairs (S.1 102 (23 + a1).toNatClampNeg) S) fun r_8 S_7 =>
  (if r_8 = 0 then some (0, S_7) else fX8_standsAt_30 a1 (S.1 102 (23 + a1).toNatClampNeg) S_7) else fX8_standsAt_30 a1 (S.1 102 (23 + a1).toNatClampNeg) S) else none
abbrev rmX8_standsAt : Room := { frames := 5, cells := 0, slots := 0, locals := 113 }
theorem yd_X8_standsAt : yX8_standsAt.cls = RX8 ∧ yX8_standsAt.cls ≠ "java/lang/invoke/MethodHandle" ∧ yX8_standsAt.cls ≠ "java/lang/invoke/VarHandle" ∧ (parseMethodDescriptor yX8_standsAt.desc).map (fun d => d.parameters.length) = some 1 := by decide +kernel
set_option maxRecDepth 100000 in
set_option maxHeartbeats 4000000 in
theorem ctX8_standsAt {l : Launch} {dC : Nat → ClassId} {dI : Nat → Nat → Nat} {cI : ClassId × ClassId} {cW : List zSh} {q : Nat → Nat} (hq : zI cW q) (hW : zIs cI cW) {a1 : Int32} {S : zT} {o : Int32 × zT} (h : fX8_standsAt a1 S = some o) : zCi l dC dI cI cW q yX8_standsAt (Cond.code yX8_standsAt cX8_standsAt 3 (some .boolean) :: zU) rmX8_standsAt [.ref (q 101), .int a1] S o := by
  refine zMet_i (lv := [(0, .ref (q 101)), (1, .int a1)]) (by decide) (Nat.le_of_ble_eq_true rfl) rfl ?_
  intro p e s m args below meth c Q hx hb hml hr hU hown hlocks hK hN hP hS ls hl hQ
  replace hown : s.vm.findClass RX8 = some m.cls := hown
  unfold fX8_standsAt at h
  have L30 : ∀ (x1 : Int32) (x2 : Int32) (S : zT) (H : Heap) (locs : List Loc) (ls : Array Slot), va_P (dC, dI) vwCl (zWd cI cW q S) H → va_S (zA cW q) s.heap H locs → lv_has ls 3 [(0, .ref (q 101)), (1, .int x1), (2, .int x2)] → fX8_standsAt_30 x1 x2 S = some o → W p l e rmX8_standsAt s m args below meth c H locs 0 0 Q (F0 m 30 ls []) := by
    intro x1 x2 S H locs ls hP hS hl h
    unfold fX8_standsAt_30 at h
    refine lv_iload_n hx hb dX8_standsAt_30 rfl (lv_at hl 2 rfl) ?_
    refine z_if_ne (tgt := 58) hx hb dX8_standsAt_31 (by decide) h (fun h => ?_) (fun h => ?_)
    · refine lv_aload_n hx hb dX8_standsAt_58 rfl (lv_at hl 0 rfl) ?_
      refine lv_iload_n hx hb dX8_standsAt_59 rfl (lv_at hl 1 rfl) ?_
      refine z_callV_v hx hb hml hown hU hK hN hP hS 1 (p_101 hW) rfl rfl (zU_V uL_X8_130 uI_X8_feetAt uS_X8_feetAt uN_X8 uC_X8_feetAt) yd_X8_feetAt ⟨rfl, rfl⟩ ⟨Nat.le_of_ble_eq_true rfl, Nat.le_of_ble_eq_true rfl⟩ (As := [.int x1]) (fun o h9 => ctX8_feetAt hq hW h9) rfl hl.1 rfl (Nat.le_of_ble_eq_true rfl) dX8_standsAt_60 ⟨Nat.zero_le _, Nat.zero_le _⟩ h (fun S_1 H locs hP hS h => ?_)
      refine lv_aload_n hx hb dX8_standsAt_63 rfl (lv_at hl 0 rfl) ?_
      refine lv_iconst (v := 2) hx hb dX8_standsAt_64 rfl ?_
      refine lv_aload_n hx hb dX8_standsAt_65 rfl (lv_at hl 0 rfl) ?_
      refine z_get hx hb hU uU_X8 hown hK hP (p_101 hW) rfl rfl 1 (by decide) (hU _ uF_X8_7) rfl dX8_standsAt_66 ?_
      refine lv_iconst (v := 4) hx hb dX8_standsAt_69 rfl ?_
      refine z_ialdC (j := 4) hx hb hK hP (pA_102 hW) dX8_standsAt_70 rfl (by decide) ?_
      refine lv_imul hx hb dX8_standsAt_71 ?_
      refine z_callV_v hx hb hml hown hU hK hN hP hS 1 (p_101 hW) rfl rfl (zU_V uL_X8_134 uI_X8_spans uS_X8_spans uN_X8 uC_X8_spans) yd_X8_spans ⟨rfl, rfl⟩ ⟨Nat.le_of_ble_eq_true rfl, Nat.le_of_ble_eq_true rfl⟩ (As := [.int (2 * (S_1.1 102 4))]) (fun o h9 => ctX8_spans hq hW h9) rfl hl.1 rfl (Nat.le_of_ble_eq_true rfl) dX8_standsAt_72 ⟨Nat.zero_le _, Nat.zero_le _⟩ h (fun S_2 H locs hP hS h => ?_)
      refine lv_aload_n hx hb dX8_standsAt_75 rfl (lv_at hl 0 rfl) ?_
      refine lv_iconst (v := 2) hx hb dX8_standsAt_76 rfl ?_
      refine lv_aload_n hx hb dX8_standsAt_77 rfl (lv_at hl 0 rfl) ?_
      refine z_get hx hb hU uU_X8 hown hK hP (p_101 hW) rfl rfl 1 (by decide) (hU _ uF_X8_7) rfl dX8_standsAt_78 ?_
      refine lv_iconst (v := 5) hx hb dX8_standsAt_81 rfl ?_
      refine z_ialdC (j := 5) hx hb hK hP (pA_102 hW) dX8_standsAt_82 rfl (by decide) ?_
      refine lv_imul hx hb dX8_standsAt_83 ?_
      refine z_callV_i hx hb hml hown hU hK hN hP hS 1 (p_101 hW) rfl rfl (zU_V uL_X8_137 uI_X8_isWithin uS_X8_isWithin uN_X8 uC_X8_isWithin) yd_X8_isWithin ⟨rfl, rfl⟩ ⟨Nat.le_of_ble_eq_true rfl, Nat.le_of_ble_eq_true rfl⟩ (As := [.int (2 * (S_2.1 102 5))]) (fun o h9 => ctX8_isWithin hq hW h9) rfl hl.1 rfl (Nat.le_of_ble_eq_true rfl) dX8_standsAt_84 ⟨Nat.zero_le _, Nat.zero_le _⟩ h (fun r_4 S_3 H locs hP hS h => ?_)
      exact z_zret hx hb hlocks hP hS hQ hr dX8_standsAt_87 h
    · refine lv_aload_n hx hb dX8_standsAt_34 rfl (lv_at hl 0 rfl) ?_
      refine z_get hx hb hU uU_X8 hown hK hP (p_101 hW) rfl rfl 1 (by decide) (hU _ uF_X8_7) rfl dX8_standsAt_35 ?_
      refine lv_iconst (v := 1) hx hb dX8_standsAt_38 rfl ?_
      refine z_ialdC (j := 1) hx hb hK hP (pA_102 hW) dX8_standsAt_39 rfl (by decide) ?_
      refine lv_iconst (v := 1) hx hb dX8_standsAt_40 rfl ?_
      refine z_icmp_ne (tgt := 56) hx hb dX8_standsAt_41 (by decide) h (fun h => ?_) (fun h => ?_)
      · refine lv_iconst (v := 0) hx hb dX8_standsAt_56 rfl ?_
        exact z_zretC hx hb hlocks hP hS hQ hr dX8_standsAt_57 (Or.inl rfl) h
      · refine lv_aload_n hx hb dX8_standsAt_44 rfl (lv_at hl 0 rfl) ?_
        refine lv_iload_n hx hb dX8_standsAt_45 rfl (lv_at hl 1 rfl) ?_
        refine z_callV_i hx hb hml hown hU hK hN hP hS 1 (p_101 hW) rfl rfl (zU_V uL_X8_127 uI_X8_isFlying uS_X8_isFlying uN_X8 uC_X8_isFlying) yd_X8_isFlying ⟨rfl, rfl⟩ ⟨Nat.le_of_ble_eq_true rfl, Nat.le_of_ble_eq_true rfl⟩ (As := [.int x1]) (fun o h9 => ctX8_isFlying hq hW h9) rfl hl.1 rfl (Nat.le_of_ble_eq_true rfl) dX8_standsAt_46 ⟨Nat.zero_le _, Nat.zero_le _⟩ h (fun r_6 S_5 H locs hP hS h => ?_)
        refine z_if_eq (tgt := 56) hx hb dX8_standsAt_49 (by decide) h (fun h => ?_) (fun h => ?_)
        · refine lv_iconst (v := 0) hx hb dX8_standsAt_56 rfl ?_
          exact z_zretC hx hb hlocks hP hS hQ hr dX8_standsAt_57 (Or.inl rfl) h
        · refine lv_iconst (v := 1) hx hb dX8_standsAt_52 rfl ?_
          refine lv_goto (tgt := 57) hx hb dX8_standsAt_53 (by decide) ?_
          exact z_zretC hx hb hlocks hP hS hQ hr dX8_standsAt_57 (Or.inr rfl) h
  refine lv_aload_n hx hb dX8_standsAt_0 rfl (lv_at hl 0 rfl) ?_
  refine z_get hx hb hU uU_X8 hown hK hP (p_101 hW) rfl rfl 1 (by decide) (hU _ uF_X8_7) rfl dX8_standsAt_1 ?_
  refine lv_bipush (v := 23) hx hb dX8_standsAt_4 rfl ?_
  refine lv_iload_n hx hb dX8_standsAt_6 rfl (lv_at hl 1 rfl) ?_
  refine lv_iadd hx hb dX8_standsAt_7 ?_
  refine z_iald hx hb hK hP (pA_102 hW) dX8_standsAt_8 h (fun h => ?_)
  refine lv_istore_n (lv' := [(2, .int (S.1 102 (23 + a1).toNatClampNeg)), (0, .ref (q 101)), (1, .int a1)]) hx hb dX8_standsAt_9 rfl hl (by decide) rfl (fun ls hl => ?_)
  refine lv_aload_n hx hb dX8_standsAt_10 rfl (lv_at hl 1 rfl) ?_
  refine z_get hx hb hU uU_X8 hown hK hP (p_101 hW) rfl rfl 1 (by decide) (hU _ uF_X8_7) rfl dX8_standsAt_11 ?_
  refine lv_iconst (v := 1) hx hb dX8_standsAt_14 rfl ?_
  refine z_ialdC (j := 1) hx hb hK hP (pA_102 hW) dX8_standsAt_15 rfl (by decide) ?_
  refine lv_iconst (v := 2) hx hb dX8_standsAt_16 rfl ?_
  refine z_icmp_ne (tgt := 30) hx hb dX8_standsAt_17 (by decide) h (fun h => ?_) (fun h => ?_)
  · exact L30 a1 (S.1 102 (23 + a1).toNatClampNeg) _ _ _ ls hP hS (lv_sub hl [1, 2, 0] rfl) h
  · refine lv_aload_n hx hb dX8_standsAt_20 rfl (lv_at hl 1 rfl) ?_
    refine lv_iload_n hx hb dX8_standsAt_21 rfl (lv_at hl 0 rfl) ?_
    refine z_callV_i hx hb hml hown hU hK hN hP hS 1 (p_101 hW) rfl rfl (zU_V uL_X8_124 uI_X8_isPairs uS_X8_isPairs uN_X8 uC_X8_isPairs) yd_X8_isPairs ⟨rfl, rfl⟩ ⟨Nat.le_of_ble_eq_true rfl, Nat.le_of_ble_eq_true rfl⟩ (As := [.int (S.1 102 (23 + a1).toNatClampNeg)]) (fun o h9 => ctX8_isPairs hq hW h9) rfl hl.1 rfl (Nat.le_of_ble_eq_true rfl) dX8_standsAt_22 ⟨Nat.zero_le _, Nat.zero_le _⟩ h (fun r_8 S_7 H locs hP hS h => ?_)
    refine z_if_ne (tgt := 30) hx hb dX8_standsAt_25 (by decide) h (fun h => ?_) (fun h => ?_)
    · exact L30 a1 (S.1 102 (23 + a1).toNatClampNeg) _ _ _ ls hP hS (lv_sub hl [1, 2, 0] rfl) h
    · refine lv_iconst (v := 0) hx hb dX8_standsAt_28 rfl ?_
      exact z_zretC hx hb hlocks hP hS hQ hr dX8_standsAt_29 (Or.inl rfl) h

def fX8_stands (a1 : Int32) (S : zT) : Option (Int32 × zT) :=
  zlet (zsi S 101 0 0) fun S_1 =>
  zbv (fX8_begins S_1) fun S_2 =>
  zbi (fX8_isTick a1 S_2) fun r_4 S_3 =>
  (if r_4 = 0 then some ((-1), S_3) else zbi (fX8_standsAt a1 S_3) fun r_6 S_5 =>
  (if r_6 = 0 then some (0, S_5) else some (1, S_5)))
abbrev rmX8_stands : Room := { frames := 6, cells := 0, slots := 0, locals := 135 }
theorem yd_X8_stands : yX8_stands.cls = RX8 ∧ yX8_stands.cls ≠ "java/lang/invoke/MethodHandle" ∧ yX8_stands.cls ≠ "java/lang/invoke/VarHandle" ∧ (parseMethodDescriptor yX8_stands.desc).map (fun d => d.parameters.length) = some 1 := by decide +kernel
set_option maxRecDepth 100000 in
set_option maxHeartbeats 4000000 in
theorem ctX8_stands {l : Launch} {dC : Nat → ClassId} {dI : Nat → Nat → Nat} {cI : ClassId × ClassId} {cW : List zSh} {q : Nat → Nat} (hq : zI cW q) (hW : zIs cI cW) {a1 : Int32} {S : zT} {o : Int32 × zT} (h : fX8_stands a1 S = some o) : zCi l dC dI cI cW q yX8_stands (Cond.code yX8_stands cX8_stands 2 (some .int) :: zU) rmX8_stands [.ref (q 101), .int a1] S o := by
  refine zMet_i (lv := [(0, .ref (q 101)), (1, .int a1)]) (by decide) (Nat.le_of_ble_eq_true rfl) rfl ?_
  intro p e s m args below meth c Q hx hb hml hr hU hown hlocks hK hN hP hS ls hl hQ
  replace hown : s.vm.findClass RX8 = some m.cls := hown
  unfold fX8_stands at h
  refine lv_aload_n hx hb dX8_stands_0 rfl (lv_at hl 0 rfl) ?_
  refine lv_iconst (v := 0) hx hb dX8_stands_1 rfl ?_
  refine z_puti hx hb hU uU_X8 tyX8 tyX8_ok nmX8 hown hq hK hP hS (p_101 hW) rfl rfl 0 (by decide) (hU _ uF_X8_34) rfl rfl rfl (Nat.le_of_ble_eq_true rfl) rfl dX8_stands_2 h (fun S_1 H locs hP hS h => ?_)
  refine lv_aload_n hx hb dX8_stands_5 rfl (lv_at hl 0 rfl) ?_
  refine z_callV_v hx hb hml hown hU hK hN hP hS 0 (p_101 hW) rfl rfl (zU_V uL_X8_49 uI_X8_begins uS_X8_begins uN_X8 uC_X8_begins) yd_X8_begins ⟨rfl, rfl⟩ ⟨Nat.le_of_ble_eq_true rfl, Nat.le_of_ble_eq_true rfl⟩ (As := []) (fun o h9 => ctX8_begins hq hW h9) rfl hl.1 rfl (Nat.le_of_ble_eq_true rfl) dX8_stands_6 ⟨Nat.zero_le _, Nat.zero_le _⟩ h (fun S_2 H locs hP hS h => ?_)
  refine lv_aload_n hx hb dX8_stands_9 rfl (lv_at hl 0 rfl) ?_
  refine lv_iload_n hx hb dX8_stands_10 rfl (lv_at hl 1 rfl) ?_
  refine z_callV_i hx hb hml hown hU hK hN hP hS 1 (p_101 hW) rfl rfl (zU_V uL_X8_71 uI_X8_isTick uS_X8_isTick uN_X8 uC_X8_isTick) yd_X8_isTick ⟨rfl, rfl⟩ ⟨Nat.le_of_ble_eq_true rfl, Nat.le_of_ble_eq_true rfl⟩ (As := [.int a1]) (fun o h9 => ctX8_isTick hq hW h9) rfl hl.1 rfl (Nat.le_of_ble_eq_true rfl) dX8_stands_11 ⟨Nat.zero_le _, Nat.zero_le _⟩ h (fun r_4 S_3 H locs hP hS h => ?_)
  refine z_if_ne (tgt := 21) hx hb dX8_stands_14 (by decide) h (fun h => ?_) (fun h => ?_)
  · refine lv_aload_n hx hb dX8_stands_21 rfl (lv_at hl 0 rfl) ?_
    refine lv_iload_n hx hb dX8_stands_22 rfl (lv_at hl 1 rfl) ?_
    refine z_callV_i hx hb hml hown hU hK hN hP hS 1 (p_101 hW) rfl rfl (zU_V uL_X8_140 uI_X8_standsAt uS_X8_standsAt uN_X8 uC_X8_standsAt) yd_X8_standsAt ⟨rfl, rfl⟩ ⟨Nat.le_of_ble_eq_true rfl, Nat.le_of_ble_eq_true rfl⟩ (As := [.int a1]) (fun o h9 => ctX8_standsAt hq hW h9) rfl hl.1 rfl (Nat.le_of_ble_eq_true rfl) dX8_stands_23 ⟨Nat.zero_le _, Nat.zero_le _⟩ h (fun r_6 S_5 H locs hP hS h => ?_)
    refine z_if_eq (tgt := 33) hx hb dX8_stands_26 (by decide) h (fun h => ?_) (fun h => ?_)
    · refine lv_iconst (v := 0) hx hb dX8_stands_33 rfl ?_
      exact z_iret hx hb hlocks hP hS hQ hr dX8_stands_34 h
    · refine lv_iconst (v := 1) hx hb dX8_stands_29 rfl ?_
      refine lv_goto (tgt := 34) hx hb dX8_stands_30 (by decide) ?_
      exact z_iret hx hb hlocks hP hS hQ hr dX8_stands_34 h
  · refine lv_iconst (v := (-1)) hx hb dX8_stands_17 rfl ?_
    refine lv_goto (tgt := 34) hx hb dX8_stands_18 (by decide) ?_
    exact z_iret hx hb hlocks hP hS hQ hr dX8_stands_34 h

