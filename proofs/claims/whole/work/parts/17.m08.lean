def fX8_legAt_40 (k2 : Int32 → Int32 → Int32 → zT → Option (Int32 × zT)) (x1 : Int32) (x2 : Int32) (x3 : Int32) (S : zT) : Option (Int32 × zT) :=
  k2 x1 x2 (x3 + 1) S
def fX8_legAt_2 (rec : Int32 → Int32 → Int32 → zT → Option (Int32 × zT)) (x1 : Int32) (x2 : Int32) (x3 : Int32) (S : zT) : Option (Int32 × zT) :=
  (if (S.1 102 0) ≤ x3 then some ((-1), S) else if ¬ ((7 + x3) < 0 ∨ 48 ≤ (7 + x3).toNatClampNeg) then (if (S.1 102 (7 + x3).toNatClampNeg) = x1 then if ¬ ((15 + x3) < 0 ∨ 48 ≤ (15 + x3).toNatClampNeg) then (if (S.1 102 (15 + x3).toNatClampNeg) = x2 then some (x3, S) else (fX8_legAt_40 rec) x1 x2 x3 S) else none else (fX8_legAt_40 rec) x1 x2 x3 S) else none)
def fX8_legAt (a1 : Int32) (a2 : Int32) (S : zT) : Option (Int32 × zT) :=
  (zfix (fun _ _ _ _ => none) fX8_legAt_2 zF) a1 a2 0 S
abbrev rmX8_legAt : Room := { frames := 0, cells := 0, slots := 0, locals := 0 }
theorem yd_X8_legAt : yX8_legAt.cls = RX8 ∧ yX8_legAt.cls ≠ "java/lang/invoke/MethodHandle" ∧ yX8_legAt.cls ≠ "java/lang/invoke/VarHandle" ∧ (parseMethodDescriptor yX8_legAt.desc).map (fun d => d.parameters.length) = some 2 := by decide +kernel
set_option maxRecDepth 100000 in
set_option maxHeartbeats 4000000 in
theorem ctX8_legAt {l : Launch} {dC : Nat → ClassId} {dI : Nat → Nat → Nat} {cI : ClassId × ClassId} {cW : List zSh} {q : Nat → Nat} (hq : zI cW q) (hW : zIs cI cW) {a1 : Int32} {a2 : Int32} {S : zT} {o : Int32 × zT} (h : fX8_legAt a1 a2 S = some o) : zCi l dC dI cI cW q yX8_legAt (Cond.code yX8_legAt cX8_legAt 4 (some .int) :: zU) rmX8_legAt [.ref (q 101), .int a1, .int a2] S o := by
  refine zMet_i (lv := [(0, .ref (q 101)), (1, .int a1), (2, .int a2)]) (by decide) (Nat.le_of_ble_eq_true rfl) rfl ?_
  intro p e s m args below meth c Q hx hb hml hr hU hown hlocks hK hN hP hS ls hl hQ
  replace hown : s.vm.findClass RX8 = some m.cls := hown
  unfold fX8_legAt at h
  have L2 : ∀ (n2 : Nat) (x1 : Int32) (x2 : Int32) (x3 : Int32) (S : zT) (H : Heap) (locs : List Loc) (ls : Array Slot), va_P (dC, dI) vwCl (zWd cI cW q S) H → va_S (zA cW q) s.heap H locs → lv_has ls 4 [(0, .ref (q 101)), (1, .int x1), (2, .int x2), (3, .int x3)] → (zfix (fun _ _ _ _ => none) fX8_legAt_2 n2) x1 x2 x3 S = some o → W p l e rmX8_legAt s m args below meth c H locs 0 0 Q (F0 m 2 ls []) := by
    intro n2
    induction n2 with
    | zero => intro x1 x2 x3 S H locs ls hP hS hl h; exact zno (show (none : Option (Int32 × zT)) = some o from h)
    | succ n2 ih2 =>
      intro x1 x2 x3 S H locs ls hP hS hl h
      replace h : fX8_legAt_2 (zfix (fun _ _ _ _ => none) fX8_legAt_2 n2) x1 x2 x3 S = some o := h
      unfold fX8_legAt_2 at h
      have L40 : ∀ (x1 : Int32) (x2 : Int32) (x3 : Int32) (S : zT) (H : Heap) (locs : List Loc) (ls : Array Slot), va_P (dC, dI) vwCl (zWd cI cW q S) H → va_S (zA cW q) s.heap H locs → lv_has ls 4 [(0, .ref (q 101)), (1, .int x1), (2, .int x2), (3, .int x3)] → (fX8_legAt_40 (zfix (fun _ _ _ _ => none) fX8_legAt_2 n2)) x1 x2 x3 S = some o → W p l e rmX8_legAt s m args below meth c H locs 0 0 Q (F0 m 40 ls []) := by
        intro x1 x2 x3 S H locs ls hP hS hl h
        unfold fX8_legAt_40 at h
        refine lv_iinc (v := (x3 + 1)) (lv' := [(3, .int (x3 + 1)), (0, .ref (q 101)), (1, .int x1), (2, .int x2)]) hx hb dX8_legAt_40 hl (k := 3) rfl rfl (by decide) rfl (fun ls hl => ?_)
        refine lv_goto (tgt := 2) hx hb dX8_legAt_43 (by decide) ?_
        exact ih2 x1 x2 (x3 + 1) _ _ _ ls hP hS (lv_sub hl [1, 2, 3, 0] rfl) h
      refine lv_iload_n hx hb dX8_legAt_2 rfl (lv_at hl 3 rfl) ?_
      refine lv_aload_n hx hb dX8_legAt_3 rfl (lv_at hl 0 rfl) ?_
      refine z_get hx hb hU uU_X8 hown hK hP (p_101 hW) rfl rfl 1 (by decide) (hU _ uF_X8_7) rfl dX8_legAt_4 ?_
      refine lv_iconst (v := 0) hx hb dX8_legAt_7 rfl ?_
      refine z_ialdC (j := 0) hx hb hK hP (pA_102 hW) dX8_legAt_8 rfl (by decide) ?_
      refine z_icmp_ge (tgt := 46) hx hb dX8_legAt_9 (by decide) h (fun h => ?_) (fun h => ?_)
      · refine lv_iconst (v := (-1)) hx hb dX8_legAt_46 rfl ?_
        exact z_iret hx hb hlocks hP hS hQ hr dX8_legAt_47 h
      · refine lv_aload_n hx hb dX8_legAt_12 rfl (lv_at hl 0 rfl) ?_
        refine z_get hx hb hU uU_X8 hown hK hP (p_101 hW) rfl rfl 1 (by decide) (hU _ uF_X8_7) rfl dX8_legAt_13 ?_
        refine lv_bipush (v := 7) hx hb dX8_legAt_16 rfl ?_
        refine lv_iload_n hx hb dX8_legAt_18 rfl (lv_at hl 3 rfl) ?_
        refine lv_iadd hx hb dX8_legAt_19 ?_
        refine z_iald hx hb hK hP (pA_102 hW) dX8_legAt_20 h (fun h => ?_)
        refine lv_iload_n hx hb dX8_legAt_21 rfl (lv_at hl 1 rfl) ?_
        refine z_icmp_ne (tgt := 40) hx hb dX8_legAt_22 (by decide) h (fun h => ?_) (fun h => ?_)
        · exact L40 x1 x2 x3 _ _ _ ls hP hS (lv_sub hl [0, 1, 2, 3] rfl) h
        · refine lv_aload_n hx hb dX8_legAt_25 rfl (lv_at hl 0 rfl) ?_
          refine z_get hx hb hU uU_X8 hown hK hP (p_101 hW) rfl rfl 1 (by decide) (hU _ uF_X8_7) rfl dX8_legAt_26 ?_
          refine lv_bipush (v := 15) hx hb dX8_legAt_29 rfl ?_
          refine lv_iload_n hx hb dX8_legAt_31 rfl (lv_at hl 3 rfl) ?_
          refine lv_iadd hx hb dX8_legAt_32 ?_
          refine z_iald hx hb hK hP (pA_102 hW) dX8_legAt_33 h (fun h => ?_)
          refine lv_iload_n hx hb dX8_legAt_34 rfl (lv_at hl 2 rfl) ?_
          refine z_icmp_ne (tgt := 40) hx hb dX8_legAt_35 (by decide) h (fun h => ?_) (fun h => ?_)
          · exact L40 x1 x2 x3 _ _ _ ls hP hS (lv_sub hl [0, 1, 2, 3] rfl) h
          · refine lv_iload_n hx hb dX8_legAt_38 rfl (lv_at hl 3 rfl) ?_
            exact z_iret hx hb hlocks hP hS hQ hr dX8_legAt_39 h
  refine lv_iconst (v := 0) hx hb dX8_legAt_0 rfl ?_
  refine lv_istore_n (lv' := [(3, .int 0), (0, .ref (q 101)), (1, .int a1), (2, .int a2)]) hx hb dX8_legAt_1 rfl hl (by decide) rfl (fun ls hl => ?_)
  exact L2 zF a1 a2 0 _ _ _ ls hP hS (lv_sub hl [1, 2, 3, 0] rfl) h

def fX8_leg_50 (x1 : Int32) (x2 : Int32) (x3 : Int32) (S : zT) : Option (Int32 × zT) :=
  zbv (fX8_keep S) fun S_1 =>
  if ¬ ((7 + x1) < 0 ∨ 48 ≤ (7 + x1).toNatClampNeg) then zlet (zsi S_1 102 (7 + x1).toNatClampNeg x2) (fun S_2 =>
  if ¬ ((15 + x1) < 0 ∨ 48 ≤ (15 + x1).toNatClampNeg) then zlet (zsi S_2 102 (15 + x1).toNatClampNeg x3) (fun S_3 =>
  some (1, S_3)) else none) else none
def fX8_leg (a1 : Int32) (a2 : Int32) (a3 : Int32) (S : zT) : Option (Int32 × zT) :=
  zlet (zsi S 101 0 0) fun S_4 =>
  zbv (fX8_begins S_4) fun S_5 =>
  zbi (fX8_isLeg a1 S_5) fun r_7 S_6 =>
  (if r_7 = 0 then some (0, S_6) else zbi (fX8_isPlace a2 a3 S_6) fun r_9 S_8 =>
  (if r_9 = 0 then some (0, S_8) else zbi (fX8_legAt a2 a3 S_8) fun r_11 S_10 =>
  (if r_11 = (-1) then fX8_leg_50 a1 a2 a3 S_10 else (if r_11 = a1 then fX8_leg_50 a1 a2 a3 S_10 else some (0, S_10)))))
abbrev rmX8_leg : Room := { frames := 2, cells := 0, slots := 0, locals := 43 }
theorem yd_X8_leg : yX8_leg.cls = RX8 ∧ yX8_leg.cls ≠ "java/lang/invoke/MethodHandle" ∧ yX8_leg.cls ≠ "java/lang/invoke/VarHandle" ∧ (parseMethodDescriptor yX8_leg.desc).map (fun d => d.parameters.length) = some 3 := by decide +kernel
set_option maxRecDepth 100000 in
set_option maxHeartbeats 4000000 in
theorem ctX8_leg {l : Launch} {dC : Nat → ClassId} {dI : Nat → Nat → Nat} {cI : ClassId × ClassId} {cW : List zSh} {q : Nat → Nat} (hq : zI cW q) (hW : zIs cI cW) {a1 : Int32} {a2 : Int32} {a3 : Int32} {S : zT} {o : Int32 × zT} (h : fX8_leg a1 a2 a3 S = some o) : zCi l dC dI cI cW q yX8_leg (Cond.code yX8_leg cX8_leg 5 (some .boolean) :: zU) rmX8_leg [.ref (q 101), .int a1, .int a2, .int a3] S o := by
  refine zMet_i (lv := [(0, .ref (q 101)), (1, .int a1), (2, .int a2), (3, .int a3)]) (by decide) (Nat.le_of_ble_eq_true rfl) rfl ?_
  intro p e s m args below meth c Q hx hb hml hr hU hown hlocks hK hN hP hS ls hl hQ
  replace hown : s.vm.findClass RX8 = some m.cls := hown
  unfold fX8_leg at h
  have L50 : ∀ (x1 : Int32) (x2 : Int32) (x3 : Int32) (S : zT) (H : Heap) (locs : List Loc) (ls : Array Slot), va_P (dC, dI) vwCl (zWd cI cW q S) H → va_S (zA cW q) s.heap H locs → lv_has ls 5 [(0, .ref (q 101)), (1, .int x1), (2, .int x2), (3, .int x3)] → fX8_leg_50 x1 x2 x3 S = some o → W p l e rmX8_leg s m args below meth c H locs 0 0 Q (F0 m 50 ls []) := by
    intro x1 x2 x3 S H locs ls hP hS hl h
    unfold fX8_leg_50 at h
    refine lv_aload_n hx hb dX8_leg_50 rfl (lv_at hl 0 rfl) ?_
    refine z_callV_v hx hb hml hown hU hK hN hP hS 0 (p_101 hW) rfl rfl (zU_V uL_X8_52 uI_X8_keep uS_X8_keep uN_X8 uC_X8_keep) yd_X8_keep ⟨rfl, rfl⟩ ⟨Nat.le_of_ble_eq_true rfl, Nat.le_of_ble_eq_true rfl⟩ (As := []) (fun o h9 => ctX8_keep hq hW h9) rfl hl.1 rfl (Nat.le_of_ble_eq_true rfl) dX8_leg_51 ⟨Nat.zero_le _, Nat.zero_le _⟩ h (fun S_1 H locs hP hS h => ?_)
    refine lv_aload_n hx hb dX8_leg_54 rfl (lv_at hl 0 rfl) ?_
    refine z_get hx hb hU uU_X8 hown hK hP (p_101 hW) rfl rfl 1 (by decide) (hU _ uF_X8_7) rfl dX8_leg_55 ?_
    refine lv_bipush (v := 7) hx hb dX8_leg_58 rfl ?_
    refine lv_iload_n hx hb dX8_leg_60 rfl (lv_at hl 1 rfl) ?_
    refine lv_iadd hx hb dX8_leg_61 ?_
    refine lv_iload_n hx hb dX8_leg_62 rfl (lv_at hl 2 rfl) ?_
    refine z_iast hx hb hq hK hP hS (pA_102 hW) dX8_leg_63 h (fun S_2 H locs hP hS h => ?_)
    refine lv_aload_n hx hb dX8_leg_64 rfl (lv_at hl 0 rfl) ?_
    refine z_get hx hb hU uU_X8 hown hK hP (p_101 hW) rfl rfl 1 (by decide) (hU _ uF_X8_7) rfl dX8_leg_65 ?_
    refine lv_bipush (v := 15) hx hb dX8_leg_68 rfl ?_
    refine lv_iload_n hx hb dX8_leg_70 rfl (lv_at hl 1 rfl) ?_
    refine lv_iadd hx hb dX8_leg_71 ?_
    refine lv_iload_n hx hb dX8_leg_72 rfl (lv_at hl 3 rfl) ?_
    refine z_iast hx hb hq hK hP hS (pA_102 hW) dX8_leg_73 h (fun S_3 H locs hP hS h => ?_)
    refine lv_iconst (v := 1) hx hb dX8_leg_74 rfl ?_
    exact z_zretC hx hb hlocks hP hS hQ hr dX8_leg_75 (Or.inr rfl) h
  refine lv_aload_n hx hb dX8_leg_0 rfl (lv_at hl 0 rfl) ?_
  refine lv_iconst (v := 0) hx hb dX8_leg_1 rfl ?_
  refine z_puti hx hb hU uU_X8 tyX8 tyX8_ok nmX8 hown hq hK hP hS (p_101 hW) rfl rfl 0 (by decide) (hU _ uF_X8_34) rfl rfl rfl (Nat.le_of_ble_eq_true rfl) rfl dX8_leg_2 h (fun S_4 H locs hP hS h => ?_)
  refine lv_aload_n hx hb dX8_leg_5 rfl (lv_at hl 0 rfl) ?_
  refine z_callV_v hx hb hml hown hU hK hN hP hS 0 (p_101 hW) rfl rfl (zU_V uL_X8_49 uI_X8_begins uS_X8_begins uN_X8 uC_X8_begins) yd_X8_begins ⟨rfl, rfl⟩ ⟨Nat.le_of_ble_eq_true rfl, Nat.le_of_ble_eq_true rfl⟩ (As := []) (fun o h9 => ctX8_begins hq hW h9) rfl hl.1 rfl (Nat.le_of_ble_eq_true rfl) dX8_leg_6 ⟨Nat.zero_le _, Nat.zero_le _⟩ h (fun S_5 H locs hP hS h => ?_)
  refine lv_aload_n hx hb dX8_leg_9 rfl (lv_at hl 0 rfl) ?_
  refine lv_iload_n hx hb dX8_leg_10 rfl (lv_at hl 1 rfl) ?_
  refine z_callV_i hx hb hml hown hU hK hN hP hS 1 (p_101 hW) rfl rfl (zU_V uL_X8_55 uI_X8_isLeg uS_X8_isLeg uN_X8 uC_X8_isLeg) yd_X8_isLeg ⟨rfl, rfl⟩ ⟨Nat.le_of_ble_eq_true rfl, Nat.le_of_ble_eq_true rfl⟩ (As := [.int a1]) (fun o h9 => ctX8_isLeg hq hW h9) rfl hl.1 rfl (Nat.le_of_ble_eq_true rfl) dX8_leg_11 ⟨Nat.zero_le _, Nat.zero_le _⟩ h (fun r_7 S_6 H locs hP hS h => ?_)
  refine z_if_eq (tgt := 26) hx hb dX8_leg_14 (by decide) h (fun h => ?_) (fun h => ?_)
  · refine lv_iconst (v := 0) hx hb dX8_leg_26 rfl ?_
    exact z_zretC hx hb hlocks hP hS hQ hr dX8_leg_27 (Or.inl rfl) h
  · refine lv_aload_n hx hb dX8_leg_17 rfl (lv_at hl 0 rfl) ?_
    refine lv_iload_n hx hb dX8_leg_18 rfl (lv_at hl 2 rfl) ?_
    refine lv_iload_n hx hb dX8_leg_19 rfl (lv_at hl 3 rfl) ?_
    refine z_callV_i hx hb hml hown hU hK hN hP hS 2 (p_101 hW) rfl rfl (zU_V uL_X8_59 uI_X8_isPlace uS_X8_isPlace uN_X8 uC_X8_isPlace) yd_X8_isPlace ⟨rfl, rfl⟩ ⟨Nat.le_of_ble_eq_true rfl, Nat.le_of_ble_eq_true rfl⟩ (As := [.int a2, .int a3]) (fun o h9 => ctX8_isPlace hq hW h9) rfl hl.1 rfl (Nat.le_of_ble_eq_true rfl) dX8_leg_20 ⟨Nat.zero_le _, Nat.zero_le _⟩ h (fun r_9 S_8 H locs hP hS h => ?_)
    refine z_if_ne (tgt := 28) hx hb dX8_leg_23 (by decide) h (fun h => ?_) (fun h => ?_)
    · refine lv_aload_n hx hb dX8_leg_28 rfl (lv_at hl 0 rfl) ?_
      refine lv_iload_n hx hb dX8_leg_29 rfl (lv_at hl 2 rfl) ?_
      refine lv_iload_n hx hb dX8_leg_30 rfl (lv_at hl 3 rfl) ?_
      refine z_callV_i hx hb hml hown hU hK hN hP hS 2 (p_101 hW) rfl rfl (zU_V uL_X8_63 uI_X8_legAt uS_X8_legAt uN_X8 uC_X8_legAt) yd_X8_legAt ⟨rfl, rfl⟩ ⟨Nat.le_of_ble_eq_true rfl, Nat.le_of_ble_eq_true rfl⟩ (As := [.int a2, .int a3]) (fun o h9 => ctX8_legAt hq hW h9) rfl hl.1 rfl (Nat.le_of_ble_eq_true rfl) dX8_leg_31 ⟨Nat.zero_le _, Nat.zero_le _⟩ h (fun r_11 S_10 H locs hP hS h => ?_)
      refine lv_istore (lv' := [(4, .int r_11), (0, .ref (q 101)), (1, .int a1), (2, .int a2), (3, .int a3)]) hx hb dX8_leg_34 hl (by decide) rfl (fun ls hl => ?_)
      refine lv_iload hx hb dX8_leg_36 (lv_at hl 0 rfl) ?_
      refine lv_iconst (v := (-1)) hx hb dX8_leg_38 rfl ?_
      refine z_icmp_eq (tgt := 50) hx hb dX8_leg_39 (by decide) h (fun h => ?_) (fun h => ?_)
      · exact L50 a1 a2 a3 _ _ _ ls hP hS (lv_sub hl [1, 2, 3, 4] rfl) h
      · refine lv_iload hx hb dX8_leg_42 (lv_at hl 0 rfl) ?_
        refine lv_iload_n hx hb dX8_leg_44 rfl (lv_at hl 2 rfl) ?_
        refine z_icmp_eq (tgt := 50) hx hb dX8_leg_45 (by decide) h (fun h => ?_) (fun h => ?_)
        · exact L50 a1 a2 a3 _ _ _ ls hP hS (lv_sub hl [1, 2, 3, 4] rfl) h
        · refine lv_iconst (v := 0) hx hb dX8_leg_48 rfl ?_
          exact z_zretC hx hb hlocks hP hS hQ hr dX8_leg_49 (Or.inl rfl) h
    · refine lv_iconst (v := 0) hx hb dX8_leg_26 rfl ?_
      exact z_zretC hx hb hlocks hP hS hQ hr dX8_leg_27 (Or.inl rfl) h

def fX8_middle (a1 : Int32) (a2 : Int32) (S : zT) : Option (Int32 × zT) :=
  zlet (zsi S 101 0 0) fun S_1 =>
  zbv (fX8_begins S_1) fun S_2 =>
  zbi (fX8_isPlace a1 a2 S_2) fun r_4 S_3 =>
  (if r_4 = 0 then some (0, S_3) else zbv (fX8_keep S_3) fun S_5 =>
  zlet (zsi S_5 102 4 a1) fun S_6 =>
  zlet (zsi S_6 102 5 a2) fun S_7 =>
  some (1, S_7))
abbrev rmX8_middle : Room := { frames := 2, cells := 0, slots := 0, locals := 43 }
theorem yd_X8_middle : yX8_middle.cls = RX8 ∧ yX8_middle.cls ≠ "java/lang/invoke/MethodHandle" ∧ yX8_middle.cls ≠ "java/lang/invoke/VarHandle" ∧ (parseMethodDescriptor yX8_middle.desc).map (fun d => d.parameters.length) = some 2 := by decide +kernel
set_option maxRecDepth 100000 in
set_option maxHeartbeats 4000000 in
theorem ctX8_middle {l : Launch} {dC : Nat → ClassId} {dI : Nat → Nat → Nat} {cI : ClassId × ClassId} {cW : List zSh} {q : Nat → Nat} (hq : zI cW q) (hW : zIs cI cW) {a1 : Int32} {a2 : Int32} {S : zT} {o : Int32 × zT} (h : fX8_middle a1 a2 S = some o) : zCi l dC dI cI cW q yX8_middle (Cond.code yX8_middle cX8_middle 3 (some .boolean) :: zU) rmX8_middle [.ref (q 101), .int a1, .int a2] S o := by
  refine zMet_i (lv := [(0, .ref (q 101)), (1, .int a1), (2, .int a2)]) (by decide) (Nat.le_of_ble_eq_true rfl) rfl ?_
  intro p e s m args below meth c Q hx hb hml hr hU hown hlocks hK hN hP hS ls hl hQ
  replace hown : s.vm.findClass RX8 = some m.cls := hown
  unfold fX8_middle at h
  refine lv_aload_n hx hb dX8_middle_0 rfl (lv_at hl 0 rfl) ?_
  refine lv_iconst (v := 0) hx hb dX8_middle_1 rfl ?_
  refine z_puti hx hb hU uU_X8 tyX8 tyX8_ok nmX8 hown hq hK hP hS (p_101 hW) rfl rfl 0 (by decide) (hU _ uF_X8_34) rfl rfl rfl (Nat.le_of_ble_eq_true rfl) rfl dX8_middle_2 h (fun S_1 H locs hP hS h => ?_)
  refine lv_aload_n hx hb dX8_middle_5 rfl (lv_at hl 0 rfl) ?_
  refine z_callV_v hx hb hml hown hU hK hN hP hS 0 (p_101 hW) rfl rfl (zU_V uL_X8_49 uI_X8_begins uS_X8_begins uN_X8 uC_X8_begins) yd_X8_begins ⟨rfl, rfl⟩ ⟨Nat.le_of_ble_eq_true rfl, Nat.le_of_ble_eq_true rfl⟩ (As := []) (fun o h9 => ctX8_begins hq hW h9) rfl hl.1 rfl (Nat.le_of_ble_eq_true rfl) dX8_middle_6 ⟨Nat.zero_le _, Nat.zero_le _⟩ h (fun S_2 H locs hP hS h => ?_)
  refine lv_aload_n hx hb dX8_middle_9 rfl (lv_at hl 0 rfl) ?_
  refine lv_iload_n hx hb dX8_middle_10 rfl (lv_at hl 1 rfl) ?_
  refine lv_iload_n hx hb dX8_middle_11 rfl (lv_at hl 2 rfl) ?_
  refine z_callV_i hx hb hml hown hU hK hN hP hS 2 (p_101 hW) rfl rfl (zU_V uL_X8_59 uI_X8_isPlace uS_X8_isPlace uN_X8 uC_X8_isPlace) yd_X8_isPlace ⟨rfl, rfl⟩ ⟨Nat.le_of_ble_eq_true rfl, Nat.le_of_ble_eq_true rfl⟩ (As := [.int a1, .int a2]) (fun o h9 => ctX8_isPlace hq hW h9) rfl hl.1 rfl (Nat.le_of_ble_eq_true rfl) dX8_middle_12 ⟨Nat.zero_le _, Nat.zero_le _⟩ h (fun r_4 S_3 H locs hP hS h => ?_)
  refine z_if_ne (tgt := 20) hx hb dX8_middle_15 (by decide) h (fun h => ?_) (fun h => ?_)
  · refine lv_aload_n hx hb dX8_middle_20 rfl (lv_at hl 0 rfl) ?_
    refine z_callV_v hx hb hml hown hU hK hN hP hS 0 (p_101 hW) rfl rfl (zU_V uL_X8_52 uI_X8_keep uS_X8_keep uN_X8 uC_X8_keep) yd_X8_keep ⟨rfl, rfl⟩ ⟨Nat.le_of_ble_eq_true rfl, Nat.le_of_ble_eq_true rfl⟩ (As := []) (fun o h9 => ctX8_keep hq hW h9) rfl hl.1 rfl (Nat.le_of_ble_eq_true rfl) dX8_middle_21 ⟨Nat.zero_le _, Nat.zero_le _⟩ h (fun S_5 H locs hP hS h => ?_)
    refine lv_aload_n hx hb dX8_middle_24 rfl (lv_at hl 0 rfl) ?_
    refine z_get hx hb hU uU_X8 hown hK hP (p_101 hW) rfl rfl 1 (by decide) (hU _ uF_X8_7) rfl dX8_middle_25 ?_
    refine lv_iconst (v := 4) hx hb dX8_middle_28 rfl ?_
    refine lv_iload_n hx hb dX8_middle_29 rfl (lv_at hl 1 rfl) ?_
    refine z_iastC (j := 4) hx hb hq hK hP hS (pA_102 hW) dX8_middle_30 rfl (by decide) h (fun S_6 H locs hP hS h => ?_)
    refine lv_aload_n hx hb dX8_middle_31 rfl (lv_at hl 0 rfl) ?_
    refine z_get hx hb hU uU_X8 hown hK hP (p_101 hW) rfl rfl 1 (by decide) (hU _ uF_X8_7) rfl dX8_middle_32 ?_
    refine lv_iconst (v := 5) hx hb dX8_middle_35 rfl ?_
    refine lv_iload_n hx hb dX8_middle_36 rfl (lv_at hl 2 rfl) ?_
    refine z_iastC (j := 5) hx hb hq hK hP hS (pA_102 hW) dX8_middle_37 rfl (by decide) h (fun S_7 H locs hP hS h => ?_)
    refine lv_iconst (v := 1) hx hb dX8_middle_38 rfl ?_
    exact z_zretC hx hb hlocks hP hS hQ hr dX8_middle_39 (Or.inr rfl) h
  · refine lv_iconst (v := 0) hx hb dX8_middle_18 rfl ?_
    exact z_zretC hx hb hlocks hP hS hQ hr dX8_middle_19 (Or.inl rfl) h

def fX8_pace (a1 : Int32) (a2 : Int32) (S : zT) : Option (Int32 × zT) :=
  zlet (zsi S 101 0 0) fun S_1 =>
  zbv (fX8_begins S_1) fun S_2 =>
  (if a1 < 0 then some (0, S_2) else (if 9 < a1 then some (0, S_2) else (if a2 < 0 then some (0, S_2) else (if a2 ≤ 40 then zbv (fX8_keep S_2) fun S_3 =>
  zlet (zsi S_3 102 2 a1) fun S_4 =>
  zlet (zsi S_4 102 3 a2) fun S_5 =>
  some (1, S_5) else some (0, S_2)))))
abbrev rmX8_pace : Room := { frames := 2, cells := 0, slots := 0, locals := 43 }
theorem yd_X8_pace : yX8_pace.cls = RX8 ∧ yX8_pace.cls ≠ "java/lang/invoke/MethodHandle" ∧ yX8_pace.cls ≠ "java/lang/invoke/VarHandle" ∧ (parseMethodDescriptor yX8_pace.desc).map (fun d => d.parameters.length) = some 2 := by decide +kernel
set_option maxRecDepth 100000 in
set_option maxHeartbeats 4000000 in
theorem ctX8_pace {l : Launch} {dC : Nat → ClassId} {dI : Nat → Nat → Nat} {cI : ClassId × ClassId} {cW : List zSh} {q : Nat → Nat} (hq : zI cW q) (hW : zIs cI cW) {a1 : Int32} {a2 : Int32} {S : zT} {o : Int32 × zT} (h : fX8_pace a1 a2 S = some o) : zCi l dC dI cI cW q yX8_pace (Cond.code yX8_pace cX8_pace 3 (some .boolean) :: zU) rmX8_pace [.ref (q 101), .int a1, .int a2] S o := by
  refine zMet_i (lv := [(0, .ref (q 101)), (1, .int a1), (2, .int a2)]) (by decide) (Nat.le_of_ble_eq_true rfl) rfl ?_
  intro p e s m args below meth c Q hx hb hml hr hU hown hlocks hK hN hP hS ls hl hQ
  replace hown : s.vm.findClass RX8 = some m.cls := hown
  unfold fX8_pace at h
  refine lv_aload_n hx hb dX8_pace_0 rfl (lv_at hl 0 rfl) ?_
  refine lv_iconst (v := 0) hx hb dX8_pace_1 rfl ?_
  refine z_puti hx hb hU uU_X8 tyX8 tyX8_ok nmX8 hown hq hK hP hS (p_101 hW) rfl rfl 0 (by decide) (hU _ uF_X8_34) rfl rfl rfl (Nat.le_of_ble_eq_true rfl) rfl dX8_pace_2 h (fun S_1 H locs hP hS h => ?_)
  refine lv_aload_n hx hb dX8_pace_5 rfl (lv_at hl 0 rfl) ?_
  refine z_callV_v hx hb hml hown hU hK hN hP hS 0 (p_101 hW) rfl rfl (zU_V uL_X8_49 uI_X8_begins uS_X8_begins uN_X8 uC_X8_begins) yd_X8_begins ⟨rfl, rfl⟩ ⟨Nat.le_of_ble_eq_true rfl, Nat.le_of_ble_eq_true rfl⟩ (As := []) (fun o h9 => ctX8_begins hq hW h9) rfl hl.1 rfl (Nat.le_of_ble_eq_true rfl) dX8_pace_6 ⟨Nat.zero_le _, Nat.zero_le _⟩ h (fun S_2 H locs hP hS h => ?_)
  refine lv_iload_n hx hb dX8_pace_9 rfl (lv_at hl 1 rfl) ?_
  refine z_if_lt (tgt := 29) hx hb dX8_pace_10 (by decide) h (fun h => ?_) (fun h => ?_)
  · refine lv_iconst (v := 0) hx hb dX8_pace_29 rfl ?_
    exact z_zretC hx hb hlocks hP hS hQ hr dX8_pace_30 (Or.inl rfl) h
  · refine lv_iload_n hx hb dX8_pace_13 rfl (lv_at hl 1 rfl) ?_
    refine lv_bipush (v := 9) hx hb dX8_pace_14 rfl ?_
    refine z_icmp_gt (tgt := 29) hx hb dX8_pace_16 (by decide) h (fun h => ?_) (fun h => ?_)
    · refine lv_iconst (v := 0) hx hb dX8_pace_29 rfl ?_
      exact z_zretC hx hb hlocks hP hS hQ hr dX8_pace_30 (Or.inl rfl) h
    · refine lv_iload_n hx hb dX8_pace_19 rfl (lv_at hl 2 rfl) ?_
      refine z_if_lt (tgt := 29) hx hb dX8_pace_20 (by decide) h (fun h => ?_) (fun h => ?_)
      · refine lv_iconst (v := 0) hx hb dX8_pace_29 rfl ?_
        exact z_zretC hx hb hlocks hP hS hQ hr dX8_pace_30 (Or.inl rfl) h
      · refine lv_iload_n hx hb dX8_pace_23 rfl (lv_at hl 2 rfl) ?_
        refine lv_bipush (v := 40) hx hb dX8_pace_24 rfl ?_
        refine z_icmp_le (tgt := 31) hx hb dX8_pace_26 (by decide) h (fun h => ?_) (fun h => ?_)
        · refine lv_aload_n hx hb dX8_pace_31 rfl (lv_at hl 0 rfl) ?_
          refine z_callV_v hx hb hml hown hU hK hN hP hS 0 (p_101 hW) rfl rfl (zU_V uL_X8_52 uI_X8_keep uS_X8_keep uN_X8 uC_X8_keep) yd_X8_keep ⟨rfl, rfl⟩ ⟨Nat.le_of_ble_eq_true rfl, Nat.le_of_ble_eq_true rfl⟩ (As := []) (fun o h9 => ctX8_keep hq hW h9) rfl hl.1 rfl (Nat.le_of_ble_eq_true rfl) dX8_pace_32 ⟨Nat.zero_le _, Nat.zero_le _⟩ h (fun S_3 H locs hP hS h => ?_)
          refine lv_aload_n hx hb dX8_pace_35 rfl (lv_at hl 0 rfl) ?_
          refine z_get hx hb hU uU_X8 hown hK hP (p_101 hW) rfl rfl 1 (by decide) (hU _ uF_X8_7) rfl dX8_pace_36 ?_
          refine lv_iconst (v := 2) hx hb dX8_pace_39 rfl ?_
          refine lv_iload_n hx hb dX8_pace_40 rfl (lv_at hl 1 rfl) ?_
          refine z_iastC (j := 2) hx hb hq hK hP hS (pA_102 hW) dX8_pace_41 rfl (by decide) h (fun S_4 H locs hP hS h => ?_)
          refine lv_aload_n hx hb dX8_pace_42 rfl (lv_at hl 0 rfl) ?_
          refine z_get hx hb hU uU_X8 hown hK hP (p_101 hW) rfl rfl 1 (by decide) (hU _ uF_X8_7) rfl dX8_pace_43 ?_
          refine lv_iconst (v := 3) hx hb dX8_pace_46 rfl ?_
          refine lv_iload_n hx hb dX8_pace_47 rfl (lv_at hl 2 rfl) ?_
          refine z_iastC (j := 3) hx hb hq hK hP hS (pA_102 hW) dX8_pace_48 rfl (by decide) h (fun S_5 H locs hP hS h => ?_)
          refine lv_iconst (v := 1) hx hb dX8_pace_49 rfl ?_
          exact z_zretC hx hb hlocks hP hS hQ hr dX8_pace_50 (Or.inr rfl) h
        · refine lv_iconst (v := 0) hx hb dX8_pace_29 rfl ?_
          exact z_zretC hx hb hlocks hP hS hQ hr dX8_pace_30 (Or.inl rfl) h

def fX8_byteOf_32 (x1 : Int32) (t0 : Int32) (S : zT) : Option (Int32 × zT) :=
  some (((zshr t0 (8 * (x1 - x1 / 4 * 4))) &&& 255), S)
def fX8_byteOf (a1 : Int32) (a2 : Int32) (a3 : Int32) (a4 : Int32) (a5 : Int32) (S : zT) : Option (Int32 × zT) :=
  (if 4 ≤ a1 then (if 8 ≤ a1 then (if 12 ≤ a1 then fX8_byteOf_32 a1 a5 S else fX8_byteOf_32 a1 a4 S) else fX8_byteOf_32 a1 a3 S) else fX8_byteOf_32 a1 a2 S)
abbrev rmX8_byteOf : Room := { frames := 0, cells := 0, slots := 0, locals := 0 }
theorem yd_X8_byteOf : yX8_byteOf.cls = RX8 ∧ yX8_byteOf.cls ≠ "java/lang/invoke/MethodHandle" ∧ yX8_byteOf.cls ≠ "java/lang/invoke/VarHandle" ∧ (parseMethodDescriptor yX8_byteOf.desc).map (fun d => d.parameters.length) = some 5 := by decide +kernel
set_option maxRecDepth 100000 in
set_option maxHeartbeats 4000000 in
theorem ctX8_byteOf {l : Launch} {dC : Nat → ClassId} {dI : Nat → Nat → Nat} {cI : ClassId × ClassId} {cW : List zSh} {q : Nat → Nat} (hq : zI cW q) (hW : zIs cI cW) {a1 : Int32} {a2 : Int32} {a3 : Int32} {a4 : Int32} {a5 : Int32} {S : zT} {o : Int32 × zT} (h : fX8_byteOf a1 a2 a3 a4 a5 S = some o) : zCi l dC dI cI cW q yX8_byteOf (Cond.code yX8_byteOf cX8_byteOf 7 (some .int) :: zU) rmX8_byteOf [.ref (q 101), .int a1, .int a2, .int a3, .int a4, .int a5] S o := by
  refine zMet_i (lv := [(0, .ref (q 101)), (1, .int a1), (2, .int a2), (3, .int a3), (4, .int a4), (5, .int a5)]) (by decide) (Nat.le_of_ble_eq_true rfl) rfl ?_
  intro p e s m args below meth c Q hx hb hml hr hU hown hlocks hK hN hP hS ls hl hQ
  replace hown : s.vm.findClass RX8 = some m.cls := hown
  unfold fX8_byteOf at h
  have L32 : ∀ (x1 : Int32) (t0 : Int32) (S : zT) (H : Heap) (locs : List Loc) (ls : Array Slot), va_P (dC, dI) vwCl (zWd cI cW q S) H → va_S (zA cW q) s.heap H locs → lv_has ls 7 [(1, .int x1)] → fX8_byteOf_32 x1 t0 S = some o → W p l e rmX8_byteOf s m args below meth c H locs 0 0 Q (F0 m 32 ls [.int t0]) := by
    intro x1 t0 S H locs ls hP hS hl h
    unfold fX8_byteOf_32 at h
    refine lv_istore (lv' := [(6, .int t0), (1, .int x1)]) hx hb dX8_byteOf_32 hl (by decide) rfl (fun ls hl => ?_)
    refine lv_iload hx hb dX8_byteOf_34 (lv_at hl 0 rfl) ?_
    refine lv_bipush (v := 8) hx hb dX8_byteOf_36 rfl ?_
    refine lv_iload_n hx hb dX8_byteOf_38 rfl (lv_at hl 1 rfl) ?_
    refine lv_iconst (v := 4) hx hb dX8_byteOf_39 rfl ?_
    refine lv_irem hx hb dX8_byteOf_40 (by decide) ?_
    refine lv_imul hx hb dX8_byteOf_41 ?_
    refine lv_ishr hx hb dX8_byteOf_42 ?_
    refine lv_sipush (v := 255) hx hb dX8_byteOf_43 rfl ?_
    refine lv_iand hx hb dX8_byteOf_46 ?_
    exact z_iret hx hb hlocks hP hS hQ hr dX8_byteOf_47 h
  refine lv_iload_n hx hb dX8_byteOf_0 rfl (lv_at hl 1 rfl) ?_
  refine lv_iconst (v := 4) hx hb dX8_byteOf_1 rfl ?_
  refine z_icmp_ge (tgt := 9) hx hb dX8_byteOf_2 (by decide) h (fun h => ?_) (fun h => ?_)
  · refine lv_iload_n hx hb dX8_byteOf_9 rfl (lv_at hl 1 rfl) ?_
    refine lv_bipush (v := 8) hx hb dX8_byteOf_10 rfl ?_
    refine z_icmp_ge (tgt := 19) hx hb dX8_byteOf_12 (by decide) h (fun h => ?_) (fun h => ?_)
    · refine lv_iload_n hx hb dX8_byteOf_19 rfl (lv_at hl 1 rfl) ?_
      refine lv_bipush (v := 12) hx hb dX8_byteOf_20 rfl ?_
      refine z_icmp_ge (tgt := 30) hx hb dX8_byteOf_22 (by decide) h (fun h => ?_) (fun h => ?_)
      · refine lv_iload hx hb dX8_byteOf_30 (lv_at hl 5 rfl) ?_
        exact L32 a1 a5 _ _ _ ls hP hS (lv_sub hl [1] rfl) h
      · refine lv_iload hx hb dX8_byteOf_25 (lv_at hl 4 rfl) ?_
        refine lv_goto (tgt := 32) hx hb dX8_byteOf_27 (by decide) ?_
        exact L32 a1 a4 _ _ _ ls hP hS (lv_sub hl [1] rfl) h
    · refine lv_iload_n hx hb dX8_byteOf_15 rfl (lv_at hl 3 rfl) ?_
      refine lv_goto (tgt := 32) hx hb dX8_byteOf_16 (by decide) ?_
      exact L32 a1 a3 _ _ _ ls hP hS (lv_sub hl [1] rfl) h
  · refine lv_iload_n hx hb dX8_byteOf_5 rfl (lv_at hl 2 rfl) ?_
    refine lv_goto (tgt := 32) hx hb dX8_byteOf_6 (by decide) ?_
    exact L32 a1 a2 _ _ _ ls hP hS (lv_sub hl [1] rfl) h

def fX8_gait_96 (k46 : Int32 → Int32 → Int32 → Int32 → Int32 → Int32 → zT → Option (Int32 × zT)) (x2 : Int32) (x3 : Int32) (x4 : Int32) (x5 : Int32) (x6 : Int32) (x7 : Int32) (t0 : Int32) (t1 : Int32) (S : zT) : Option (Int32 × zT) :=
  if ¬ (t1 < 0 ∨ 48 ≤ t1.toNatClampNeg) then zlet (zsi S 102 t1.toNatClampNeg t0) (fun S_1 =>
  k46 x2 x3 x4 x5 x6 (x7 + 1) S_1) else none
def fX8_gait_46 (rec : Int32 → Int32 → Int32 → Int32 → Int32 → Int32 → zT → Option (Int32 × zT)) (x2 : Int32) (x3 : Int32) (x4 : Int32) (x5 : Int32) (x6 : Int32) (x7 : Int32) (S : zT) : Option (Int32 × zT) :=
  (if 16 ≤ x7 then some (x2, S) else (if x2 ≤ x7 then (fX8_gait_96 rec) x2 x3 x4 x5 x6 x7 0 (23 + x7) S else zbi (fX8_byteOf x7 x3 x4 x5 x6 S) fun r_3 S_2 =>
  (fX8_gait_96 rec) x2 x3 x4 x5 x6 x7 (r_3 &&& ((zshl 1 (S_2.1 102 0)) - 1)) (23 + x7) S_2))
def fX8_gait (a1 : Int32) (a2 : Int32) (a3 : Int32) (a4 : Int32) (a5 : Int32) (a6 : Int32) (S : zT) : Option (Int32 × zT) :=
  zlet (zsi S 101 0 0) fun S_4 =>
  zbv (fX8_begins S_4) fun S_5 =>
  (if a1 < 0 then some ((-1), S_5) else (if 2 < a1 then some ((-1), S_5) else (if a2 < 1 then some ((-1), S_5) else (if a2 ≤ 16 then zbv (fX8_keep S_5) fun S_6 =>
  zlet (zsi S_6 102 6 a2) fun S_7 =>
  (zfix (fun _ _ _ _ _ _ _ => none) fX8_gait_46 zF) a2 a3 a4 a5 a6 0 S_7 else some ((-1), S_5)))))
abbrev rmX8_gait : Room := { frames := 2, cells := 0, slots := 0, locals := 43 }
theorem yd_X8_gait : yX8_gait.cls = RX8 ∧ yX8_gait.cls ≠ "java/lang/invoke/MethodHandle" ∧ yX8_gait.cls ≠ "java/lang/invoke/VarHandle" ∧ (parseMethodDescriptor yX8_gait.desc).map (fun d => d.parameters.length) = some 6 := by decide +kernel
set_option maxRecDepth 100000 in
set_option maxHeartbeats 4000000 in
theorem ctX8_gait {l : Launch} {dC : Nat → ClassId} {dI : Nat → Nat → Nat} {cI : ClassId × ClassId} {cW : List zSh} {q : Nat → Nat} (hq : zI cW q) (hW : zIs cI cW) {a1 : Int32} {a2 : Int32} {a3 : Int32} {a4 : Int32} {a5 : Int32} {a6 : Int32} {S : zT} {o : Int32 × zT} (h : fX8_gait a1 a2 a3 a4 a5 a6 S = some o) : zCi l dC dI cI cW q yX8_gait (Cond.code yX8_gait cX8_gait 8 (some .int) :: zU) rmX8_gait [.ref (q 101), .int a1, .int a2, .int a3, .int a4, .int a5, .int a6] S o := by
  refine zMet_i (lv := [(0, .ref (q 101)), (1, .int a1), (2, .int a2), (3, .int a3), (4, .int a4), (5, .int a5), (6, .int a6)]) (by decide) (Nat.le_of_ble_eq_true rfl) rfl ?_
  intro p e s m args below meth c Q hx hb hml hr hU hown hlocks hK hN hP hS ls hl hQ
  replace hown : s.vm.findClass RX8 = some m.cls := hown
  unfold fX8_gait at h
  have L46 : ∀ (n46 : Nat) (x2 : Int32) (x3 : Int32) (x4 : Int32) (x5 : Int32) (x6 : Int32) (x7 : Int32) (S : zT) (H : Heap) (locs : List Loc) (ls : Array Slot), va_P (dC, dI) vwCl (zWd cI cW q S) H → va_S (zA cW q) s.heap H locs → lv_has ls 8 [(0, .ref (q 101)), (2, .int x2), (3, .int x3), (4, .int x4), (5, .int x5), (6, .int x6), (7, .int x7)] → (zfix (fun _ _ _ _ _ _ _ => none) fX8_gait_46 n46) x2 x3 x4 x5 x6 x7 S = some o → W p l e rmX8_gait s m args below meth c H locs 0 0 Q (F0 m 46 ls []) := by
    intro n46
    induction n46 with
    | zero => intro x2 x3 x4 x5 x6 x7 S H locs ls hP hS hl h; exact zno (show (none : Option (Int32 × zT)) = some o from h)
    | succ n46 ih46 =>
      intro x2 x3 x4 x5 x6 x7 S H locs ls hP hS hl h
      replace h : fX8_gait_46 (zfix (fun _ _ _ _ _ _ _ => none) fX8_gait_46 n46) x2 x3 x4 x5 x6 x7 S = some o := h
      unfold fX8_gait_46 at h
      have L96 : ∀ (x2 : Int32) (x3 : Int32) (x4 : Int32) (x5 : Int32) (x6 : Int32) (x7 : Int32) (t0 : Int32) (t1 : Int32) (S : zT) (H : Heap) (locs : List Loc) (ls : Array Slot), va_P (dC, dI) vwCl (zWd cI cW q S) H → va_S (zA cW q) s.heap H locs → lv_has ls 8 [(0, .ref (q 101)), (2, .int x2), (3, .int x3), (4, .int x4), (5, .int x5), (6, .int x6), (7, .int x7)] → (fX8_gait_96 (zfix (fun _ _ _ _ _ _ _ => none) fX8_gait_46 n46)) x2 x3 x4 x5 x6 x7 t0 t1 S = some o → W p l e rmX8_gait s m args below meth c H locs 0 0 Q (F0 m 96 ls [.int t0, .int t1, .ref (q 102)]) := by
        intro x2 x3 x4 x5 x6 x7 t0 t1 S H locs ls hP hS hl h
        unfold fX8_gait_96 at h
        refine z_iast hx hb hq hK hP hS (pA_102 hW) dX8_gait_96 h (fun S_1 H locs hP hS h => ?_)
        refine lv_iinc (v := (x7 + 1)) (lv' := [(7, .int (x7 + 1)), (0, .ref (q 101)), (2, .int x2), (3, .int x3), (4, .int x4), (5, .int x5), (6, .int x6)]) hx hb dX8_gait_97 hl (k := 6) rfl rfl (by decide) rfl (fun ls hl => ?_)
        refine lv_goto (tgt := 46) hx hb dX8_gait_100 (by decide) ?_
        exact ih46 x2 x3 x4 x5 x6 (x7 + 1) _ _ _ ls hP hS (lv_sub hl [1, 2, 3, 4, 5, 6, 0] rfl) h
      refine lv_iload hx hb dX8_gait_46 (lv_at hl 6 rfl) ?_
      refine lv_bipush (v := 16) hx hb dX8_gait_48 rfl ?_
      refine z_icmp_ge (tgt := 103) hx hb dX8_gait_50 (by decide) h (fun h => ?_) (fun h => ?_)
      · refine lv_iload_n hx hb dX8_gait_103 rfl (lv_at hl 1 rfl) ?_
        exact z_iret hx hb hlocks hP hS hQ hr dX8_gait_104 h
      · refine lv_aload_n hx hb dX8_gait_53 rfl (lv_at hl 0 rfl) ?_
        refine z_get hx hb hU uU_X8 hown hK hP (p_101 hW) rfl rfl 1 (by decide) (hU _ uF_X8_7) rfl dX8_gait_54 ?_
        refine lv_bipush (v := 23) hx hb dX8_gait_57 rfl ?_
        refine lv_iload hx hb dX8_gait_59 (lv_at hl 6 rfl) ?_
        refine lv_iadd hx hb dX8_gait_61 ?_
        refine lv_iload hx hb dX8_gait_62 (lv_at hl 6 rfl) ?_
        refine lv_iload_n hx hb dX8_gait_64 rfl (lv_at hl 1 rfl) ?_
        refine z_icmp_ge (tgt := 95) hx hb dX8_gait_65 (by decide) h (fun h => ?_) (fun h => ?_)
        · refine lv_iconst (v := 0) hx hb dX8_gait_95 rfl ?_
          exact L96 x2 x3 x4 x5 x6 x7 0 (23 + x7) _ _ _ ls hP hS (lv_sub hl [0, 1, 2, 3, 4, 5, 6] rfl) h
        · refine lv_aload_n hx hb dX8_gait_68 rfl (lv_at hl 0 rfl) ?_
          refine lv_iload hx hb dX8_gait_69 (lv_at hl 6 rfl) ?_
          refine lv_iload_n hx hb dX8_gait_71 rfl (lv_at hl 2 rfl) ?_
          refine lv_iload hx hb dX8_gait_72 (lv_at hl 3 rfl) ?_
          refine lv_iload hx hb dX8_gait_74 (lv_at hl 4 rfl) ?_
          refine lv_iload hx hb dX8_gait_76 (lv_at hl 5 rfl) ?_
          refine z_callV_i hx hb hml hown hU hK hN hP hS 5 (p_101 hW) rfl rfl (zU_V uL_X8_67 uI_X8_byteOf uS_X8_byteOf uN_X8 uC_X8_byteOf) yd_X8_byteOf ⟨rfl, rfl⟩ ⟨Nat.le_of_ble_eq_true rfl, Nat.le_of_ble_eq_true rfl⟩ (As := [.int x7, .int x3, .int x4, .int x5, .int x6]) (fun o h9 => ctX8_byteOf hq hW h9) rfl hl.1 rfl (Nat.le_of_ble_eq_true rfl) dX8_gait_78 ⟨Nat.zero_le _, Nat.zero_le _⟩ h (fun r_3 S_2 H locs hP hS h => ?_)
          refine lv_iconst (v := 1) hx hb dX8_gait_81 rfl ?_
          refine lv_aload_n hx hb dX8_gait_82 rfl (lv_at hl 0 rfl) ?_
          refine z_get hx hb hU uU_X8 hown hK hP (p_101 hW) rfl rfl 1 (by decide) (hU _ uF_X8_7) rfl dX8_gait_83 ?_
          refine lv_iconst (v := 0) hx hb dX8_gait_86 rfl ?_
          refine z_ialdC (j := 0) hx hb hK hP (pA_102 hW) dX8_gait_87 rfl (by decide) ?_
          refine lv_ishl hx hb dX8_gait_88 ?_
          refine lv_iconst (v := 1) hx hb dX8_gait_89 rfl ?_
          refine lv_isub hx hb dX8_gait_90 ?_
          refine lv_iand hx hb dX8_gait_91 ?_
          refine lv_goto (tgt := 96) hx hb dX8_gait_92 (by decide) ?_
          exact L96 x2 x3 x4 x5 x6 x7 (r_3 &&& ((zshl 1 (S_2.1 102 0)) - 1)) (23 + x7) _ _ _ ls hP hS (lv_sub hl [0, 1, 2, 3, 4, 5, 6] rfl) h
  refine lv_aload_n hx hb dX8_gait_0 rfl (lv_at hl 0 rfl) ?_
  refine lv_iconst (v := 0) hx hb dX8_gait_1 rfl ?_
  refine z_puti hx hb hU uU_X8 tyX8 tyX8_ok nmX8 hown hq hK hP hS (p_101 hW) rfl rfl 0 (by decide) (hU _ uF_X8_34) rfl rfl rfl (Nat.le_of_ble_eq_true rfl) rfl dX8_gait_2 h (fun S_4 H locs hP hS h => ?_)
  refine lv_aload_n hx hb dX8_gait_5 rfl (lv_at hl 0 rfl) ?_
  refine z_callV_v hx hb hml hown hU hK hN hP hS 0 (p_101 hW) rfl rfl (zU_V uL_X8_49 uI_X8_begins uS_X8_begins uN_X8 uC_X8_begins) yd_X8_begins ⟨rfl, rfl⟩ ⟨Nat.le_of_ble_eq_true rfl, Nat.le_of_ble_eq_true rfl⟩ (As := []) (fun o h9 => ctX8_begins hq hW h9) rfl hl.1 rfl (Nat.le_of_ble_eq_true rfl) dX8_gait_6 ⟨Nat.zero_le _, Nat.zero_le _⟩ h (fun S_5 H locs hP hS h => ?_)
  refine lv_iload_n hx hb dX8_gait_9 rfl (lv_at hl 1 rfl) ?_
  refine z_if_lt (tgt := 29) hx hb dX8_gait_10 (by decide) h (fun h => ?_) (fun h => ?_)
  · refine lv_iconst (v := (-1)) hx hb dX8_gait_29 rfl ?_
    exact z_iret hx hb hlocks hP hS hQ hr dX8_gait_30 h
  · refine lv_iload_n hx hb dX8_gait_13 rfl (lv_at hl 1 rfl) ?_
    refine lv_iconst (v := 2) hx hb dX8_gait_14 rfl ?_
    refine z_icmp_gt (tgt := 29) hx hb dX8_gait_15 (by decide) h (fun h => ?_) (fun h => ?_)
    · refine lv_iconst (v := (-1)) hx hb dX8_gait_29 rfl ?_
      exact z_iret hx hb hlocks hP hS hQ hr dX8_gait_30 h
    · refine lv_iload_n hx hb dX8_gait_18 rfl (lv_at hl 2 rfl) ?_
      refine lv_iconst (v := 1) hx hb dX8_gait_19 rfl ?_
      refine z_icmp_lt (tgt := 29) hx hb dX8_gait_20 (by decide) h (fun h => ?_) (fun h => ?_)
      · refine lv_iconst (v := (-1)) hx hb dX8_gait_29 rfl ?_
        exact z_iret hx hb hlocks hP hS hQ hr dX8_gait_30 h
      · refine lv_iload_n hx hb dX8_gait_23 rfl (lv_at hl 2 rfl) ?_
        refine lv_bipush (v := 16) hx hb dX8_gait_24 rfl ?_
        refine z_icmp_le (tgt := 31) hx hb dX8_gait_26 (by decide) h (fun h => ?_) (fun h => ?_)
        · refine lv_aload_n hx hb dX8_gait_31 rfl (lv_at hl 0 rfl) ?_
          refine z_callV_v hx hb hml hown hU hK hN hP hS 0 (p_101 hW) rfl rfl (zU_V uL_X8_52 uI_X8_keep uS_X8_keep uN_X8 uC_X8_keep) yd_X8_keep ⟨rfl, rfl⟩ ⟨Nat.le_of_ble_eq_true rfl, Nat.le_of_ble_eq_true rfl⟩ (As := []) (fun o h9 => ctX8_keep hq hW h9) rfl hl.1 rfl (Nat.le_of_ble_eq_true rfl) dX8_gait_32 ⟨Nat.zero_le _, Nat.zero_le _⟩ h (fun S_6 H locs hP hS h => ?_)
          refine lv_aload_n hx hb dX8_gait_35 rfl (lv_at hl 0 rfl) ?_
          refine z_get hx hb hU uU_X8 hown hK hP (p_101 hW) rfl rfl 1 (by decide) (hU _ uF_X8_7) rfl dX8_gait_36 ?_
          refine lv_bipush (v := 6) hx hb dX8_gait_39 rfl ?_
          refine lv_iload_n hx hb dX8_gait_41 rfl (lv_at hl 2 rfl) ?_
          refine z_iastC (j := 6) hx hb hq hK hP hS (pA_102 hW) dX8_gait_42 rfl (by decide) h (fun S_7 H locs hP hS h => ?_)
          refine lv_iconst (v := 0) hx hb dX8_gait_43 rfl ?_
          refine lv_istore (lv' := [(7, .int 0), (0, .ref (q 101)), (1, .int a1), (2, .int a2), (3, .int a3), (4, .int a4), (5, .int a5), (6, .int a6)]) hx hb dX8_gait_44 hl (by decide) rfl (fun ls hl => ?_)
          exact L46 zF a2 a3 a4 a5 a6 0 _ _ _ ls hP hS (lv_sub hl [1, 3, 4, 5, 6, 7, 0] rfl) h
        · refine lv_iconst (v := (-1)) hx hb dX8_gait_29 rfl ?_
          exact z_iret hx hb hlocks hP hS hQ hr dX8_gait_30 h

def fX8_isTick (a1 : Int32) (S : zT) : Option (Int32 × zT) :=
  (if a1 < 0 then some (0, S) else (if (S.1 102 6) ≤ a1 then some (0, S) else some (1, S)))
abbrev rmX8_isTick : Room := { frames := 0, cells := 0, slots := 0, locals := 0 }
theorem yd_X8_isTick : yX8_isTick.cls = RX8 ∧ yX8_isTick.cls ≠ "java/lang/invoke/MethodHandle" ∧ yX8_isTick.cls ≠ "java/lang/invoke/VarHandle" ∧ (parseMethodDescriptor yX8_isTick.desc).map (fun d => d.parameters.length) = some 1 := by decide +kernel
set_option maxRecDepth 100000 in
set_option maxHeartbeats 4000000 in
theorem ctX8_isTick {l : Launch} {dC : Nat → ClassId} {dI : Nat → Nat → Nat} {cI : ClassId × ClassId} {cW : List zSh} {q : Nat → Nat} (hq : zI cW q) (hW : zIs cI cW) {a1 : Int32} {S : zT} {o : Int32 × zT} (h : fX8_isTick a1 S = some o) : zCi l dC dI cI cW q yX8_isTick (Cond.code yX8_isTick cX8_isTick 2 (some .boolean) :: zU) rmX8_isTick [.ref (q 101), .int a1] S o := by
  refine zMet_i (lv := [(0, .ref (q 101)), (1, .int a1)]) (by decide) (Nat.le_of_ble_eq_true rfl) rfl ?_
  intro p e s m args below meth c Q hx hb hml hr hU hown hlocks hK hN hP hS ls hl hQ
  replace hown : s.vm.findClass RX8 = some m.cls := hown
  unfold fX8_isTick at h
  refine lv_iload_n hx hb dX8_isTick_0 rfl (lv_at hl 1 rfl) ?_
  refine z_if_lt (tgt := 19) hx hb dX8_isTick_1 (by decide) h (fun h => ?_) (fun h => ?_)
  · refine lv_iconst (v := 0) hx hb dX8_isTick_19 rfl ?_
    exact z_zretC hx hb hlocks hP hS hQ hr dX8_isTick_20 (Or.inl rfl) h
  · refine lv_iload_n hx hb dX8_isTick_4 rfl (lv_at hl 1 rfl) ?_
    refine lv_aload_n hx hb dX8_isTick_5 rfl (lv_at hl 0 rfl) ?_
    refine z_get hx hb hU uU_X8 hown hK hP (p_101 hW) rfl rfl 1 (by decide) (hU _ uF_X8_7) rfl dX8_isTick_6 ?_
    refine lv_bipush (v := 6) hx hb dX8_isTick_9 rfl ?_
    refine z_ialdC (j := 6) hx hb hK hP (pA_102 hW) dX8_isTick_11 rfl (by decide) ?_
    refine z_icmp_ge (tgt := 19) hx hb dX8_isTick_12 (by decide) h (fun h => ?_) (fun h => ?_)
    · refine lv_iconst (v := 0) hx hb dX8_isTick_19 rfl ?_
      exact z_zretC hx hb hlocks hP hS hQ hr dX8_isTick_20 (Or.inl rfl) h
    · refine lv_iconst (v := 1) hx hb dX8_isTick_15 rfl ?_
      refine lv_goto (tgt := 20) hx hb dX8_isTick_16 (by decide) ?_
      exact z_zretC hx hb hlocks hP hS hQ hr dX8_isTick_20 (Or.inr rfl) h

def fX8_isSet (a1 : Int32) (S : zT) : Option (Int32 × zT) :=
  (if a1 < 0 then some (0, S) else (if (zshl 1 (S.1 102 0)) ≤ a1 then some (0, S) else some (1, S)))
abbrev rmX8_isSet : Room := { frames := 0, cells := 0, slots := 0, locals := 0 }
theorem yd_X8_isSet : yX8_isSet.cls = RX8 ∧ yX8_isSet.cls ≠ "java/lang/invoke/MethodHandle" ∧ yX8_isSet.cls ≠ "java/lang/invoke/VarHandle" ∧ (parseMethodDescriptor yX8_isSet.desc).map (fun d => d.parameters.length) = some 1 := by decide +kernel
set_option maxRecDepth 100000 in
set_option maxHeartbeats 4000000 in
theorem ctX8_isSet {l : Launch} {dC : Nat → ClassId} {dI : Nat → Nat → Nat} {cI : ClassId × ClassId} {cW : List zSh} {q : Nat → Nat} (hq : zI cW q) (hW : zIs cI cW) {a1 : Int32} {S : zT} {o : Int32 × zT} (h : fX8_isSet a1 S = some o) : zCi l dC dI cI cW q yX8_isSet (Cond.code yX8_isSet cX8_isSet 2 (some .boolean) :: zU) rmX8_isSet [.ref (q 101), .int a1] S o := by
  refine zMet_i (lv := [(0, .ref (q 101)), (1, .int a1)]) (by decide) (Nat.le_of_ble_eq_true rfl) rfl ?_
  intro p e s m args below meth c Q hx hb hml hr hU hown hlocks hK hN hP hS ls hl hQ
  replace hown : s.vm.findClass RX8 = some m.cls := hown
  unfold fX8_isSet at h
  refine lv_iload_n hx hb dX8_isSet_0 rfl (lv_at hl 1 rfl) ?_
  refine z_if_lt (tgt := 20) hx hb dX8_isSet_1 (by decide) h (fun h => ?_) (fun h => ?_)
  · refine lv_iconst (v := 0) hx hb dX8_isSet_20 rfl ?_
    exact z_zretC hx hb hlocks hP hS hQ hr dX8_isSet_21 (Or.inl rfl) h
  · refine lv_iload_n hx hb dX8_isSet_4 rfl (lv_at hl 1 rfl) ?_
    refine lv_iconst (v := 1) hx hb dX8_isSet_5 rfl ?_
    refine lv_aload_n hx hb dX8_isSet_6 rfl (lv_at hl 0 rfl) ?_
    refine z_get hx hb hU uU_X8 hown hK hP (p_101 hW) rfl rfl 1 (by decide) (hU _ uF_X8_7) rfl dX8_isSet_7 ?_
    refine lv_iconst (v := 0) hx hb dX8_isSet_10 rfl ?_
    refine z_ialdC (j := 0) hx hb hK hP (pA_102 hW) dX8_isSet_11 rfl (by decide) ?_
    refine lv_ishl hx hb dX8_isSet_12 ?_
    refine z_icmp_ge (tgt := 20) hx hb dX8_isSet_13 (by decide) h (fun h => ?_) (fun h => ?_)
    · refine lv_iconst (v := 0) hx hb dX8_isSet_20 rfl ?_
      exact z_zretC hx hb hlocks hP hS hQ hr dX8_isSet_21 (Or.inl rfl) h
    · refine lv_iconst (v := 1) hx hb dX8_isSet_16 rfl ?_
      refine lv_goto (tgt := 21) hx hb dX8_isSet_17 (by decide) ?_
      exact z_zretC hx hb hlocks hP hS hQ hr dX8_isSet_21 (Or.inr rfl) h

def fX8_tick (a1 : Int32) (a2 : Int32) (S : zT) : Option (Int32 × zT) :=
  zlet (zsi S 101 0 0) fun S_1 =>
  zbv (fX8_begins S_1) fun S_2 =>
  zbi (fX8_isTick a1 S_2) fun r_4 S_3 =>
  (if r_4 = 0 then some (0, S_3) else zbi (fX8_isSet a2 S_3) fun r_6 S_5 =>
  (if r_6 = 0 then some (0, S_5) else zbv (fX8_keep S_5) fun S_7 =>
  if ¬ ((23 + a1) < 0 ∨ 48 ≤ (23 + a1).toNatClampNeg) then zlet (zsi S_7 102 (23 + a1).toNatClampNeg a2) (fun S_8 =>
  some (1, S_8)) else none))
abbrev rmX8_tick : Room := { frames := 2, cells := 0, slots := 0, locals := 43 }
theorem yd_X8_tick : yX8_tick.cls = RX8 ∧ yX8_tick.cls ≠ "java/lang/invoke/MethodHandle" ∧ yX8_tick.cls ≠ "java/lang/invoke/VarHandle" ∧ (parseMethodDescriptor yX8_tick.desc).map (fun d => d.parameters.length) = some 2 := by decide +kernel
set_option maxRecDepth 100000 in
set_option maxHeartbeats 4000000 in
theorem ctX8_tick {l : Launch} {dC : Nat → ClassId} {dI : Nat → Nat → Nat} {cI : ClassId × ClassId} {cW : List zSh} {q : Nat → Nat} (hq : zI cW q) (hW : zIs cI cW) {a1 : Int32} {a2 : Int32} {S : zT} {o : Int32 × zT} (h : fX8_tick a1 a2 S = some o) : zCi l dC dI cI cW q yX8_tick (Cond.code yX8_tick cX8_tick 3 (some .boolean) :: zU) rmX8_tick [.ref (q 101), .int a1, .int a2] S o := by
  refine zMet_i (lv := [(0, .ref (q 101)), (1, .int a1), (2, .int a2)]) (by decide) (Nat.le_of_ble_eq_true rfl) rfl ?_
  intro p e s m args below meth c Q hx hb hml hr hU hown hlocks hK hN hP hS ls hl hQ
  replace hown : s.vm.findClass RX8 = some m.cls := hown
  unfold fX8_tick at h
  refine lv_aload_n hx hb dX8_tick_0 rfl (lv_at hl 0 rfl) ?_
  refine lv_iconst (v := 0) hx hb dX8_tick_1 rfl ?_
  refine z_puti hx hb hU uU_X8 tyX8 tyX8_ok nmX8 hown hq hK hP hS (p_101 hW) rfl rfl 0 (by decide) (hU _ uF_X8_34) rfl rfl rfl (Nat.le_of_ble_eq_true rfl) rfl dX8_tick_2 h (fun S_1 H locs hP hS h => ?_)
  refine lv_aload_n hx hb dX8_tick_5 rfl (lv_at hl 0 rfl) ?_
  refine z_callV_v hx hb hml hown hU hK hN hP hS 0 (p_101 hW) rfl rfl (zU_V uL_X8_49 uI_X8_begins uS_X8_begins uN_X8 uC_X8_begins) yd_X8_begins ⟨rfl, rfl⟩ ⟨Nat.le_of_ble_eq_true rfl, Nat.le_of_ble_eq_true rfl⟩ (As := []) (fun o h9 => ctX8_begins hq hW h9) rfl hl.1 rfl (Nat.le_of_ble_eq_true rfl) dX8_tick_6 ⟨Nat.zero_le _, Nat.zero_le _⟩ h (fun S_2 H locs hP hS h => ?_)
  refine lv_aload_n hx hb dX8_tick_9 rfl (lv_at hl 0 rfl) ?_
  refine lv_iload_n hx hb dX8_tick_10 rfl (lv_at hl 1 rfl) ?_
  refine z_callV_i hx hb hml hown hU hK hN hP hS 1 (p_101 hW) rfl rfl (zU_V uL_X8_71 uI_X8_isTick uS_X8_isTick uN_X8 uC_X8_isTick) yd_X8_isTick ⟨rfl, rfl⟩ ⟨Nat.le_of_ble_eq_true rfl, Nat.le_of_ble_eq_true rfl⟩ (As := [.int a1]) (fun o h9 => ctX8_isTick hq hW h9) rfl hl.1 rfl (Nat.le_of_ble_eq_true rfl) dX8_tick_11 ⟨Nat.zero_le _, Nat.zero_le _⟩ h (fun r_4 S_3 H locs hP hS h => ?_)
  refine z_if_eq (tgt := 25) hx hb dX8_tick_14 (by decide) h (fun h => ?_) (fun h => ?_)
  · refine lv_iconst (v := 0) hx hb dX8_tick_25 rfl ?_
    exact z_zretC hx hb hlocks hP hS hQ hr dX8_tick_26 (Or.inl rfl) h
  · refine lv_aload_n hx hb dX8_tick_17 rfl (lv_at hl 0 rfl) ?_
    refine lv_iload_n hx hb dX8_tick_18 rfl (lv_at hl 2 rfl) ?_
    refine z_callV_i hx hb hml hown hU hK hN hP hS 1 (p_101 hW) rfl rfl (zU_V uL_X8_74 uI_X8_isSet uS_X8_isSet uN_X8 uC_X8_isSet) yd_X8_isSet ⟨rfl, rfl⟩ ⟨Nat.le_of_ble_eq_true rfl, Nat.le_of_ble_eq_true rfl⟩ (As := [.int a2]) (fun o h9 => ctX8_isSet hq hW h9) rfl hl.1 rfl (Nat.le_of_ble_eq_true rfl) dX8_tick_19 ⟨Nat.zero_le _, Nat.zero_le _⟩ h (fun r_6 S_5 H locs hP hS h => ?_)
    refine z_if_ne (tgt := 27) hx hb dX8_tick_22 (by decide) h (fun h => ?_) (fun h => ?_)
    · refine lv_aload_n hx hb dX8_tick_27 rfl (lv_at hl 0 rfl) ?_
      refine z_callV_v hx hb hml hown hU hK hN hP hS 0 (p_101 hW) rfl rfl (zU_V uL_X8_52 uI_X8_keep uS_X8_keep uN_X8 uC_X8_keep) yd_X8_keep ⟨rfl, rfl⟩ ⟨Nat.le_of_ble_eq_true rfl, Nat.le_of_ble_eq_true rfl⟩ (As := []) (fun o h9 => ctX8_keep hq hW h9) rfl hl.1 rfl (Nat.le_of_ble_eq_true rfl) dX8_tick_28 ⟨Nat.zero_le _, Nat.zero_le _⟩ h (fun S_7 H locs hP hS h => ?_)
      refine lv_aload_n hx hb dX8_tick_31 rfl (lv_at hl 0 rfl) ?_
      refine z_get hx hb hU uU_X8 hown hK hP (p_101 hW) rfl rfl 1 (by decide) (hU _ uF_X8_7) rfl dX8_tick_32 ?_
      refine lv_bipush (v := 23) hx hb dX8_tick_35 rfl ?_
      refine lv_iload_n hx hb dX8_tick_37 rfl (lv_at hl 1 rfl) ?_
      refine lv_iadd hx hb dX8_tick_38 ?_
      refine lv_iload_n hx hb dX8_tick_39 rfl (lv_at hl 2 rfl) ?_
      refine z_iast hx hb hq hK hP hS (pA_102 hW) dX8_tick_40 h (fun S_8 H locs hP hS h => ?_)
      refine lv_iconst (v := 1) hx hb dX8_tick_41 rfl ?_
      exact z_zretC hx hb hlocks hP hS hQ hr dX8_tick_42 (Or.inr rfl) h
    · refine lv_iconst (v := 0) hx hb dX8_tick_25 rfl ?_
      exact z_zretC hx hb hlocks hP hS hQ hr dX8_tick_26 (Or.inl rfl) h

def fX8_twin (a1 : Int32) (S : zT) : Option (Int32 × zT) :=
  if ¬ ((7 + a1) < 0 ∨ 48 ≤ (7 + a1).toNatClampNeg) then if ¬ ((15 + a1) < 0 ∨ 48 ≤ (15 + a1).toNatClampNeg) then zbi (fX8_legAt (-(S.1 102 (7 + a1).toNatClampNeg)) (S.1 102 (15 + a1).toNatClampNeg) S) fun r_2 S_1 =>
  some (r_2, S_1) else none else none
abbrev rmX8_twin : Room := { frames := 1, cells := 0, slots := 0, locals := 23 }
theorem yd_X8_twin : yX8_twin.cls = RX8 ∧ yX8_twin.cls ≠ "java/lang/invoke/MethodHandle" ∧ yX8_twin.cls ≠ "java/lang/invoke/VarHandle" ∧ (parseMethodDescriptor yX8_twin.desc).map (fun d => d.parameters.length) = some 1 := by decide +kernel
set_option maxRecDepth 100000 in
set_option maxHeartbeats 4000000 in
theorem ctX8_twin {l : Launch} {dC : Nat → ClassId} {dI : Nat → Nat → Nat} {cI : ClassId × ClassId} {cW : List zSh} {q : Nat → Nat} (hq : zI cW q) (hW : zIs cI cW) {a1 : Int32} {S : zT} {o : Int32 × zT} (h : fX8_twin a1 S = some o) : zCi l dC dI cI cW q yX8_twin (Cond.code yX8_twin cX8_twin 2 (some .int) :: zU) rmX8_twin [.ref (q 101), .int a1] S o := by
  refine zMet_i (lv := [(0, .ref (q 101)), (1, .int a1)]) (by decide) (Nat.le_of_ble_eq_true rfl) rfl ?_
  intro p e s m args below meth c Q hx hb hml hr hU hown hlocks hK hN hP hS ls hl hQ
  replace hown : s.vm.findClass RX8 = some m.cls := hown
  unfold fX8_twin at h
  refine lv_aload_n hx hb dX8_twin_0 rfl (lv_at hl 0 rfl) ?_
  refine lv_aload_n hx hb dX8_twin_1 rfl (lv_at hl 0 rfl) ?_
  refine z_get hx hb hU uU_X8 hown hK hP (p_101 hW) rfl rfl 1 (by decide) (hU _ uF_X8_7) rfl dX8_twin_2 ?_
  refine lv_bipush (v := 7) hx hb dX8_twin_5 rfl ?_
  refine lv_iload_n hx hb dX8_twin_7 rfl (lv_at hl 1 rfl) ?_
  refine lv_iadd hx hb dX8_twin_8 ?_
  refine z_iald hx hb hK hP (pA_102 hW) dX8_twin_9 h (fun h => ?_)
  refine lv_ineg hx hb dX8_twin_10 ?_
  refine lv_aload_n hx hb dX8_twin_11 rfl (lv_at hl 0 rfl) ?_
  refine z_get hx hb hU uU_X8 hown hK hP (p_101 hW) rfl rfl 1 (by decide) (hU _ uF_X8_7) rfl dX8_twin_12 ?_
  refine lv_bipush (v := 15) hx hb dX8_twin_15 rfl ?_
  refine lv_iload_n hx hb dX8_twin_17 rfl (lv_at hl 1 rfl) ?_
  refine lv_iadd hx hb dX8_twin_18 ?_
  refine z_iald hx hb hK hP (pA_102 hW) dX8_twin_19 h (fun h => ?_)
  refine z_callV_i hx hb hml hown hU hK hN hP hS 2 (p_101 hW) rfl rfl (zU_V uL_X8_63 uI_X8_legAt uS_X8_legAt uN_X8 uC_X8_legAt) yd_X8_legAt ⟨rfl, rfl⟩ ⟨Nat.le_of_ble_eq_true rfl, Nat.le_of_ble_eq_true rfl⟩ (As := [.int (-(S.1 102 (7 + a1).toNatClampNeg)), .int (S.1 102 (15 + a1).toNatClampNeg)]) (fun o h9 => ctX8_legAt hq hW h9) rfl hl.1 rfl (Nat.le_of_ble_eq_true rfl) dX8_twin_20 ⟨Nat.zero_le _, Nat.zero_le _⟩ h (fun r_2 S_1 H locs hP hS h => ?_)
  exact z_iret hx hb hlocks hP hS hQ hr dX8_twin_23 h

def fX8_isMirrored_13 (rec : Int32 → zT → Option (Int32 × zT)) (x1 : Int32) (S : zT) : Option (Int32 × zT) :=
  (if (S.1 102 0) ≤ x1 then some (1, S) else zbi (fX8_twin x1 S) fun r_2 S_1 =>
  (if r_2 = (-1) then some (0, S_1) else rec (x1 + 1) S_1))
def fX8_isMirrored (S : zT) : Option (Int32 × zT) :=
  (if (S.1 102 4) = 0 then (zfix (fun _ _ => none) fX8_isMirrored_13 zF) 0 S else some (0, S))
abbrev rmX8_isMirrored : Room := { frames := 2, cells := 0, slots := 0, locals := 44 }
theorem yd_X8_isMirrored : yX8_isMirrored.cls = RX8 ∧ yX8_isMirrored.cls ≠ "java/lang/invoke/MethodHandle" ∧ yX8_isMirrored.cls ≠ "java/lang/invoke/VarHandle" ∧ (parseMethodDescriptor yX8_isMirrored.desc).map (fun d => d.parameters.length) = some 0 := by decide +kernel
set_option maxRecDepth 100000 in
set_option maxHeartbeats 4000000 in
theorem ctX8_isMirrored {l : Launch} {dC : Nat → ClassId} {dI : Nat → Nat → Nat} {cI : ClassId × ClassId} {cW : List zSh} {q : Nat → Nat} (hq : zI cW q) (hW : zIs cI cW) {S : zT} {o : Int32 × zT} (h : fX8_isMirrored S = some o) : zCi l dC dI cI cW q yX8_isMirrored (Cond.code yX8_isMirrored cX8_isMirrored 2 (some .boolean) :: zU) rmX8_isMirrored [.ref (q 101)] S o := by
  refine zMet_i (lv := [(0, .ref (q 101))]) (by decide) (Nat.le_of_ble_eq_true rfl) rfl ?_
  intro p e s m args below meth c Q hx hb hml hr hU hown hlocks hK hN hP hS ls hl hQ
  replace hown : s.vm.findClass RX8 = some m.cls := hown
  unfold fX8_isMirrored at h
  have L13 : ∀ (n13 : Nat) (x1 : Int32) (S : zT) (H : Heap) (locs : List Loc) (ls : Array Slot), va_P (dC, dI) vwCl (zWd cI cW q S) H → va_S (zA cW q) s.heap H locs → lv_has ls 2 [(0, .ref (q 101)), (1, .int x1)] → (zfix (fun _ _ => none) fX8_isMirrored_13 n13) x1 S = some o → W p l e rmX8_isMirrored s m args below meth c H locs 0 0 Q (F0 m 13 ls []) := by
    intro n13
    induction n13 with
    | zero => intro x1 S H locs ls hP hS hl h; exact zno (show (none : Option (Int32 × zT)) = some o from h)
    | succ n13 ih13 =>
      intro x1 S H locs ls hP hS hl h
      replace h : fX8_isMirrored_13 (zfix (fun _ _ => none) fX8_isMirrored_13 n13) x1 S = some o := h
      unfold fX8_isMirrored_13 at h
      refine lv_iload_n hx hb dX8_isMirrored_13 rfl (lv_at hl 1 rfl) ?_
      refine lv_aload_n hx hb dX8_isMirrored_14 rfl (lv_at hl 0 rfl) ?_
      refine z_get hx hb hU uU_X8 hown hK hP (p_101 hW) rfl rfl 1 (by decide) (hU _ uF_X8_7) rfl dX8_isMirrored_15 ?_
      refine lv_iconst (v := 0) hx hb dX8_isMirrored_18 rfl ?_
      refine z_ialdC (j := 0) hx hb hK hP (pA_102 hW) dX8_isMirrored_19 rfl (by decide) ?_
      refine z_icmp_ge (tgt := 40) hx hb dX8_isMirrored_20 (by decide) h (fun h => ?_) (fun h => ?_)
      · refine lv_iconst (v := 1) hx hb dX8_isMirrored_40 rfl ?_
        exact z_zretC hx hb hlocks hP hS hQ hr dX8_isMirrored_41 (Or.inr rfl) h
      · refine lv_aload_n hx hb dX8_isMirrored_23 rfl (lv_at hl 0 rfl) ?_
        refine lv_iload_n hx hb dX8_isMirrored_24 rfl (lv_at hl 1 rfl) ?_
        refine z_callV_i hx hb hml hown hU hK hN hP hS 1 (p_101 hW) rfl rfl (zU_V uL_X8_77 uI_X8_twin uS_X8_twin uN_X8 uC_X8_twin) yd_X8_twin ⟨rfl, rfl⟩ ⟨Nat.le_of_ble_eq_true rfl, Nat.le_of_ble_eq_true rfl⟩ (As := [.int x1]) (fun o h9 => ctX8_twin hq hW h9) rfl hl.1 rfl (Nat.le_of_ble_eq_true rfl) dX8_isMirrored_25 ⟨Nat.zero_le _, Nat.zero_le _⟩ h (fun r_2 S_1 H locs hP hS h => ?_)
        refine lv_iconst (v := (-1)) hx hb dX8_isMirrored_28 rfl ?_
        refine z_icmp_ne (tgt := 34) hx hb dX8_isMirrored_29 (by decide) h (fun h => ?_) (fun h => ?_)
        · refine lv_iinc (v := (x1 + 1)) (lv' := [(1, .int (x1 + 1)), (0, .ref (q 101))]) hx hb dX8_isMirrored_34 hl (k := 1) rfl rfl (by decide) rfl (fun ls hl => ?_)
          refine lv_goto (tgt := 13) hx hb dX8_isMirrored_37 (by decide) ?_
          exact ih13 (x1 + 1) _ _ _ ls hP hS (lv_sub hl [1, 0] rfl) h
        · refine lv_iconst (v := 0) hx hb dX8_isMirrored_32 rfl ?_
          exact z_zretC hx hb hlocks hP hS hQ hr dX8_isMirrored_33 (Or.inl rfl) h
  refine lv_aload_n hx hb dX8_isMirrored_0 rfl (lv_at hl 0 rfl) ?_
  refine z_get hx hb hU uU_X8 hown hK hP (p_101 hW) rfl rfl 1 (by decide) (hU _ uF_X8_7) rfl dX8_isMirrored_1 ?_
  refine lv_iconst (v := 4) hx hb dX8_isMirrored_4 rfl ?_
  refine z_ialdC (j := 4) hx hb hK hP (pA_102 hW) dX8_isMirrored_5 rfl (by decide) ?_
  refine z_if_eq (tgt := 11) hx hb dX8_isMirrored_6 (by decide) h (fun h => ?_) (fun h => ?_)
  · refine lv_iconst (v := 0) hx hb dX8_isMirrored_11 rfl ?_
    refine lv_istore_n (lv' := [(1, .int 0), (0, .ref (q 101))]) hx hb dX8_isMirrored_12 rfl hl (by decide) rfl (fun ls hl => ?_)
    exact L13 zF 0 _ _ _ ls hP hS (lv_sub hl [1, 0] rfl) h
  · refine lv_iconst (v := 0) hx hb dX8_isMirrored_9 rfl ?_
    exact z_zretC hx hb hlocks hP hS hQ hr dX8_isMirrored_10 (Or.inl rfl) h

def fX8_about_173 (x1 : Int32) (S : zT) : Option (Int32 × zT) :=
  (if x1 < 30 then some ((-100), S) else zbi (fX8_isLeg (x1 - 30) S) fun r_2 S_1 =>
  (if r_2 = 0 then some ((-100), S_1) else zbi (fX8_twin (x1 - 30) S_1) fun r_4 S_3 =>
  (if r_4 = (-1) then some ((-100), S_3) else zbi (fX8_twin (x1 - 30) S_3) fun r_6 S_5 =>
  some (r_6, S_5))))
def fX8_about_143 (x1 : Int32) (S : zT) : Option (Int32 × zT) :=
  (if x1 < 20 then fX8_about_173 x1 S else zbi (fX8_isLeg (x1 - 20) S) fun r_8 S_7 =>
  (if r_8 = 0 then fX8_about_173 x1 S_7 else if ¬ (((15 + x1) - 20) < 0 ∨ 48 ≤ ((15 + x1) - 20).toNatClampNeg) then some ((S_7.1 102 ((15 + x1) - 20).toNatClampNeg), S_7) else none))
def fX8_about (a1 : Int32) (S : zT) : Option (Int32 × zT) :=
  zlet (zsi S 101 0 0) fun S_9 =>
  zbv (fX8_begins S_9) fun S_10 =>
  (if a1 = 0 then some ((S_10.1 102 0), S_10) else (if a1 = 1 then some ((S_10.1 102 1), S_10) else (if a1 = 2 then some ((S_10.1 102 6), S_10) else (if a1 = 3 then some ((S_10.1 102 2), S_10) else (if a1 = 4 then some ((S_10.1 102 3), S_10) else (if a1 = 5 then some ((S_10.1 102 4), S_10) else (if a1 = 6 then some ((S_10.1 102 5), S_10) else (if a1 = 7 then zbi (fX8_isMirrored S_10) fun r_14 S_13 =>
  (if r_14 = 0 then some (0, S_13) else some (1, S_13)) else (if a1 < 10 then fX8_about_143 a1 S_10 else zbi (fX8_isLeg (a1 - 10) S_10) fun r_12 S_11 =>
  (if r_12 = 0 then fX8_about_143 a1 S_11 else if ¬ (((7 + a1) - 10) < 0 ∨ 48 ≤ ((7 + a1) - 10).toNatClampNeg) then some ((S_11.1 102 ((7 + a1) - 10).toNatClampNeg), S_11) else none))))))))))
abbrev rmX8_about : Room := { frames := 3, cells := 0, slots := 0, locals := 65 }
theorem yd_X8_about : yX8_about.cls = RX8 ∧ yX8_about.cls ≠ "java/lang/invoke/MethodHandle" ∧ yX8_about.cls ≠ "java/lang/invoke/VarHandle" ∧ (parseMethodDescriptor yX8_about.desc).map (fun d => d.parameters.length) = some 1 := by decide +kernel
set_option maxRecDepth 100000 in
set_option maxHeartbeats 4000000 in
theorem ctX8_about {l : Launch} {dC : Nat → ClassId} {dI : Nat → Nat → Nat} {cI : ClassId × ClassId} {cW : List zSh} {q : Nat → Nat} (hq : zI cW q) (hW : zIs cI cW) {a1 : Int32} {S : zT} {o : Int32 × zT} (h : fX8_about a1 S = some o) : zCi l dC dI cI cW q yX8_about (Cond.code yX8_about cX8_about 2 (some .int) :: zU) rmX8_about [.ref (q 101), .int a1] S o := by
  refine zMet_i (lv := [(0, .ref (q 101)), (1, .int a1)]) (by decide) (Nat.le_of_ble_eq_true rfl) rfl ?_
  intro p e s m args below meth c Q hx hb hml hr hU hown hlocks hK hN hP hS ls hl hQ
  replace hown : s.vm.findClass RX8 = some m.cls := hown
  unfold fX8_about at h
  have L143 : ∀ (x1 : Int32) (S : zT) (H : Heap) (locs : List Loc) (ls : Array Slot), va_P (dC, dI) vwCl (zWd cI cW q S) H → va_S (zA cW q) s.heap H locs → lv_has ls 2 [(0, .ref (q 101)), (1, .int x1)] → fX8_about_143 x1 S = some o → W p l e rmX8_about s m args below meth c H locs 0 0 Q (F0 m 143 ls []) := by
    intro x1 S H locs ls hP hS hl h
    unfold fX8_about_143 at h
    have L173 : ∀ (x1 : Int32) (S : zT) (H : Heap) (locs : List Loc) (ls : Array Slot), va_P (dC, dI) vwCl (zWd cI cW q S) H → va_S (zA cW q) s.heap H locs → lv_has ls 2 [(0, .ref (q 101)), (1, .int x1)] → fX8_about_173 x1 S = some o → W p l e rmX8_about s m args below meth c H locs 0 0 Q (F0 m 173 ls []) := by
      intro x1 S H locs ls hP hS hl h
      unfold fX8_about_173 at h
      refine lv_iload_n hx hb dX8_about_173 rfl (lv_at hl 1 rfl) ?_
      refine lv_bipush (v := 30) hx hb dX8_about_174 rfl ?_
      refine z_icmp_lt (tgt := 211) hx hb dX8_about_176 (by decide) h (fun h => ?_) (fun h => ?_)
      · refine lv_bipush (v := (-100)) hx hb dX8_about_211 rfl ?_
        exact z_iret hx hb hlocks hP hS hQ hr dX8_about_213 h
      · refine lv_aload_n hx hb dX8_about_179 rfl (lv_at hl 0 rfl) ?_
        refine lv_iload_n hx hb dX8_about_180 rfl (lv_at hl 1 rfl) ?_
        refine lv_bipush (v := 30) hx hb dX8_about_181 rfl ?_
        refine lv_isub hx hb dX8_about_183 ?_
        refine z_callV_i hx hb hml hown hU hK hN hP hS 1 (p_101 hW) rfl rfl (zU_V uL_X8_55 uI_X8_isLeg uS_X8_isLeg uN_X8 uC_X8_isLeg) yd_X8_isLeg ⟨rfl, rfl⟩ ⟨Nat.le_of_ble_eq_true rfl, Nat.le_of_ble_eq_true rfl⟩ (As := [.int (x1 - 30)]) (fun o h9 => ctX8_isLeg hq hW h9) rfl hl.1 rfl (Nat.le_of_ble_eq_true rfl) dX8_about_184 ⟨Nat.zero_le _, Nat.zero_le _⟩ h (fun r_2 S_1 H locs hP hS h => ?_)
        refine z_if_eq (tgt := 211) hx hb dX8_about_187 (by decide) h (fun h => ?_) (fun h => ?_)
        · refine lv_bipush (v := (-100)) hx hb dX8_about_211 rfl ?_
          exact z_iret hx hb hlocks hP hS hQ hr dX8_about_213 h
        · refine lv_aload_n hx hb dX8_about_190 rfl (lv_at hl 0 rfl) ?_
          refine lv_iload_n hx hb dX8_about_191 rfl (lv_at hl 1 rfl) ?_
          refine lv_bipush (v := 30) hx hb dX8_about_192 rfl ?_
          refine lv_isub hx hb dX8_about_194 ?_
          refine z_callV_i hx hb hml hown hU hK hN hP hS 1 (p_101 hW) rfl rfl (zU_V uL_X8_77 uI_X8_twin uS_X8_twin uN_X8 uC_X8_twin) yd_X8_twin ⟨rfl, rfl⟩ ⟨Nat.le_of_ble_eq_true rfl, Nat.le_of_ble_eq_true rfl⟩ (As := [.int (x1 - 30)]) (fun o h9 => ctX8_twin hq hW h9) rfl hl.1 rfl (Nat.le_of_ble_eq_true rfl) dX8_about_195 ⟨Nat.zero_le _, Nat.zero_le _⟩ h (fun r_4 S_3 H locs hP hS h => ?_)
          refine lv_iconst (v := (-1)) hx hb dX8_about_198 rfl ?_
          refine z_icmp_eq (tgt := 211) hx hb dX8_about_199 (by decide) h (fun h => ?_) (fun h => ?_)
          · refine lv_bipush (v := (-100)) hx hb dX8_about_211 rfl ?_
            exact z_iret hx hb hlocks hP hS hQ hr dX8_about_213 h
          · refine lv_aload_n hx hb dX8_about_202 rfl (lv_at hl 0 rfl) ?_
            refine lv_iload_n hx hb dX8_about_203 rfl (lv_at hl 1 rfl) ?_
            refine lv_bipush (v := 30) hx hb dX8_about_204 rfl ?_
            refine lv_isub hx hb dX8_about_206 ?_
            refine z_callV_i hx hb hml hown hU hK hN hP hS 1 (p_101 hW) rfl rfl (zU_V uL_X8_77 uI_X8_twin uS_X8_twin uN_X8 uC_X8_twin) yd_X8_twin ⟨rfl, rfl⟩ ⟨Nat.le_of_ble_eq_true rfl, Nat.le_of_ble_eq_true rfl⟩ (As := [.int (x1 - 30)]) (fun o h9 => ctX8_twin hq hW h9) rfl hl.1 rfl (Nat.le_of_ble_eq_true rfl) dX8_about_207 ⟨Nat.zero_le _, Nat.zero_le _⟩ h (fun r_6 S_5 H locs hP hS h => ?_)
            exact z_iret hx hb hlocks hP hS hQ hr dX8_about_210 h
    refine lv_iload_n hx hb dX8_about_143 rfl (lv_at hl 1 rfl) ?_
    refine lv_bipush (v := 20) hx hb dX8_about_144 rfl ?_
    refine z_icmp_lt (tgt := 173) hx hb dX8_about_146 (by decide) h (fun h => ?_) (fun h => ?_)
    · exact L173 x1 _ _ _ ls hP hS (lv_sub hl [0, 1] rfl) h
    · refine lv_aload_n hx hb dX8_about_149 rfl (lv_at hl 0 rfl) ?_
      refine lv_iload_n hx hb dX8_about_150 rfl (lv_at hl 1 rfl) ?_
      refine lv_bipush (v := 20) hx hb dX8_about_151 rfl ?_
      refine lv_isub hx hb dX8_about_153 ?_
      refine z_callV_i hx hb hml hown hU hK hN hP hS 1 (p_101 hW) rfl rfl (zU_V uL_X8_55 uI_X8_isLeg uS_X8_isLeg uN_X8 uC_X8_isLeg) yd_X8_isLeg ⟨rfl, rfl⟩ ⟨Nat.le_of_ble_eq_true rfl, Nat.le_of_ble_eq_true rfl⟩ (As := [.int (x1 - 20)]) (fun o h9 => ctX8_isLeg hq hW h9) rfl hl.1 rfl (Nat.le_of_ble_eq_true rfl) dX8_about_154 ⟨Nat.zero_le _, Nat.zero_le _⟩ h (fun r_8 S_7 H locs hP hS h => ?_)
      refine z_if_eq (tgt := 173) hx hb dX8_about_157 (by decide) h (fun h => ?_) (fun h => ?_)
      · exact L173 x1 _ _ _ ls hP hS (lv_sub hl [0, 1] rfl) h
      · refine lv_aload_n hx hb dX8_about_160 rfl (lv_at hl 0 rfl) ?_
        refine z_get hx hb hU uU_X8 hown hK hP (p_101 hW) rfl rfl 1 (by decide) (hU _ uF_X8_7) rfl dX8_about_161 ?_
        refine lv_bipush (v := 15) hx hb dX8_about_164 rfl ?_
        refine lv_iload_n hx hb dX8_about_166 rfl (lv_at hl 1 rfl) ?_
        refine lv_iadd hx hb dX8_about_167 ?_
        refine lv_bipush (v := 20) hx hb dX8_about_168 rfl ?_
        refine lv_isub hx hb dX8_about_170 ?_
        refine z_iald hx hb hK hP (pA_102 hW) dX8_about_171 h (fun h => ?_)
        exact z_iret hx hb hlocks hP hS hQ hr dX8_about_172 h
  refine lv_aload_n hx hb dX8_about_0 rfl (lv_at hl 0 rfl) ?_
  refine lv_iconst (v := 0) hx hb dX8_about_1 rfl ?_
  refine z_puti hx hb hU uU_X8 tyX8 tyX8_ok nmX8 hown hq hK hP hS (p_101 hW) rfl rfl 0 (by decide) (hU _ uF_X8_34) rfl rfl rfl (Nat.le_of_ble_eq_true rfl) rfl dX8_about_2 h (fun S_9 H locs hP hS h => ?_)
  refine lv_aload_n hx hb dX8_about_5 rfl (lv_at hl 0 rfl) ?_
  refine z_callV_v hx hb hml hown hU hK hN hP hS 0 (p_101 hW) rfl rfl (zU_V uL_X8_49 uI_X8_begins uS_X8_begins uN_X8 uC_X8_begins) yd_X8_begins ⟨rfl, rfl⟩ ⟨Nat.le_of_ble_eq_true rfl, Nat.le_of_ble_eq_true rfl⟩ (As := []) (fun o h9 => ctX8_begins hq hW h9) rfl hl.1 rfl (Nat.le_of_ble_eq_true rfl) dX8_about_6 ⟨Nat.zero_le _, Nat.zero_le _⟩ h (fun S_10 H locs hP hS h => ?_)
  refine lv_iload_n hx hb dX8_about_9 rfl (lv_at hl 1 rfl) ?_
  refine z_if_ne (tgt := 20) hx hb dX8_about_10 (by decide) h (fun h => ?_) (fun h => ?_)
  · refine lv_iload_n hx hb dX8_about_20 rfl (lv_at hl 1 rfl) ?_
    refine lv_iconst (v := 1) hx hb dX8_about_21 rfl ?_
    refine z_icmp_ne (tgt := 32) hx hb dX8_about_22 (by decide) h (fun h => ?_) (fun h => ?_)
    · refine lv_iload_n hx hb dX8_about_32 rfl (lv_at hl 1 rfl) ?_
      refine lv_iconst (v := 2) hx hb dX8_about_33 rfl ?_
      refine z_icmp_ne (tgt := 45) hx hb dX8_about_34 (by decide) h (fun h => ?_) (fun h => ?_)
      · refine lv_iload_n hx hb dX8_about_45 rfl (lv_at hl 1 rfl) ?_
        refine lv_iconst (v := 3) hx hb dX8_about_46 rfl ?_
        refine z_icmp_ne (tgt := 57) hx hb dX8_about_47 (by decide) h (fun h => ?_) (fun h => ?_)
        · refine lv_iload_n hx hb dX8_about_57 rfl (lv_at hl 1 rfl) ?_
          refine lv_iconst (v := 4) hx hb dX8_about_58 rfl ?_
          refine z_icmp_ne (tgt := 69) hx hb dX8_about_59 (by decide) h (fun h => ?_) (fun h => ?_)
          · refine lv_iload_n hx hb dX8_about_69 rfl (lv_at hl 1 rfl) ?_
            refine lv_iconst (v := 5) hx hb dX8_about_70 rfl ?_
            refine z_icmp_ne (tgt := 81) hx hb dX8_about_71 (by decide) h (fun h => ?_) (fun h => ?_)
            · refine lv_iload_n hx hb dX8_about_81 rfl (lv_at hl 1 rfl) ?_
              refine lv_bipush (v := 6) hx hb dX8_about_82 rfl ?_
              refine z_icmp_ne (tgt := 94) hx hb dX8_about_84 (by decide) h (fun h => ?_) (fun h => ?_)
              · refine lv_iload_n hx hb dX8_about_94 rfl (lv_at hl 1 rfl) ?_
                refine lv_bipush (v := 7) hx hb dX8_about_95 rfl ?_
                refine z_icmp_ne (tgt := 113) hx hb dX8_about_97 (by decide) h (fun h => ?_) (fun h => ?_)
                · refine lv_iload_n hx hb dX8_about_113 rfl (lv_at hl 1 rfl) ?_
                  refine lv_bipush (v := 10) hx hb dX8_about_114 rfl ?_
                  refine z_icmp_lt (tgt := 143) hx hb dX8_about_116 (by decide) h (fun h => ?_) (fun h => ?_)
                  · exact L143 a1 _ _ _ ls hP hS (lv_sub hl [0, 1] rfl) h
                  · refine lv_aload_n hx hb dX8_about_119 rfl (lv_at hl 0 rfl) ?_
                    refine lv_iload_n hx hb dX8_about_120 rfl (lv_at hl 1 rfl) ?_
                    refine lv_bipush (v := 10) hx hb dX8_about_121 rfl ?_
                    refine lv_isub hx hb dX8_about_123 ?_
                    refine z_callV_i hx hb hml hown hU hK hN hP hS 1 (p_101 hW) rfl rfl (zU_V uL_X8_55 uI_X8_isLeg uS_X8_isLeg uN_X8 uC_X8_isLeg) yd_X8_isLeg ⟨rfl, rfl⟩ ⟨Nat.le_of_ble_eq_true rfl, Nat.le_of_ble_eq_true rfl⟩ (As := [.int (a1 - 10)]) (fun o h9 => ctX8_isLeg hq hW h9) rfl hl.1 rfl (Nat.le_of_ble_eq_true rfl) dX8_about_124 ⟨Nat.zero_le _, Nat.zero_le _⟩ h (fun r_12 S_11 H locs hP hS h => ?_)
                    refine z_if_eq (tgt := 143) hx hb dX8_about_127 (by decide) h (fun h => ?_) (fun h => ?_)
                    · exact L143 a1 _ _ _ ls hP hS (lv_sub hl [0, 1] rfl) h
                    · refine lv_aload_n hx hb dX8_about_130 rfl (lv_at hl 0 rfl) ?_
                      refine z_get hx hb hU uU_X8 hown hK hP (p_101 hW) rfl rfl 1 (by decide) (hU _ uF_X8_7) rfl dX8_about_131 ?_
                      refine lv_bipush (v := 7) hx hb dX8_about_134 rfl ?_
                      refine lv_iload_n hx hb dX8_about_136 rfl (lv_at hl 1 rfl) ?_
                      refine lv_iadd hx hb dX8_about_137 ?_
                      refine lv_bipush (v := 10) hx hb dX8_about_138 rfl ?_
                      refine lv_isub hx hb dX8_about_140 ?_
                      refine z_iald hx hb hK hP (pA_102 hW) dX8_about_141 h (fun h => ?_)
                      exact z_iret hx hb hlocks hP hS hQ hr dX8_about_142 h
                · refine lv_aload_n hx hb dX8_about_100 rfl (lv_at hl 0 rfl) ?_
                  refine z_callV_i hx hb hml hown hU hK hN hP hS 0 (p_101 hW) rfl rfl (zU_V uL_X8_81 uI_X8_isMirrored uS_X8_isMirrored uN_X8 uC_X8_isMirrored) yd_X8_isMirrored ⟨rfl, rfl⟩ ⟨Nat.le_of_ble_eq_true rfl, Nat.le_of_ble_eq_true rfl⟩ (As := []) (fun o h9 => ctX8_isMirrored hq hW h9) rfl hl.1 rfl (Nat.le_of_ble_eq_true rfl) dX8_about_101 ⟨Nat.zero_le _, Nat.zero_le _⟩ h (fun r_14 S_13 H locs hP hS h => ?_)
                  refine z_if_eq (tgt := 111) hx hb dX8_about_104 (by decide) h (fun h => ?_) (fun h => ?_)
                  · refine lv_iconst (v := 0) hx hb dX8_about_111 rfl ?_
                    exact z_iret hx hb hlocks hP hS hQ hr dX8_about_112 h
                  · refine lv_iconst (v := 1) hx hb dX8_about_107 rfl ?_
                    refine lv_goto (tgt := 112) hx hb dX8_about_108 (by decide) ?_
                    exact z_iret hx hb hlocks hP hS hQ hr dX8_about_112 h
              · refine lv_aload_n hx hb dX8_about_87 rfl (lv_at hl 0 rfl) ?_
                refine z_get hx hb hU uU_X8 hown hK hP (p_101 hW) rfl rfl 1 (by decide) (hU _ uF_X8_7) rfl dX8_about_88 ?_
                refine lv_iconst (v := 5) hx hb dX8_about_91 rfl ?_
                refine z_ialdC (j := 5) hx hb hK hP (pA_102 hW) dX8_about_92 rfl (by decide) ?_
                exact z_iret hx hb hlocks hP hS hQ hr dX8_about_93 h
            · refine lv_aload_n hx hb dX8_about_74 rfl (lv_at hl 0 rfl) ?_
              refine z_get hx hb hU uU_X8 hown hK hP (p_101 hW) rfl rfl 1 (by decide) (hU _ uF_X8_7) rfl dX8_about_75 ?_
              refine lv_iconst (v := 4) hx hb dX8_about_78 rfl ?_
              refine z_ialdC (j := 4) hx hb hK hP (pA_102 hW) dX8_about_79 rfl (by decide) ?_
              exact z_iret hx hb hlocks hP hS hQ hr dX8_about_80 h
          · refine lv_aload_n hx hb dX8_about_62 rfl (lv_at hl 0 rfl) ?_
            refine z_get hx hb hU uU_X8 hown hK hP (p_101 hW) rfl rfl 1 (by decide) (hU _ uF_X8_7) rfl dX8_about_63 ?_
            refine lv_iconst (v := 3) hx hb dX8_about_66 rfl ?_
            refine z_ialdC (j := 3) hx hb hK hP (pA_102 hW) dX8_about_67 rfl (by decide) ?_
            exact z_iret hx hb hlocks hP hS hQ hr dX8_about_68 h
        · refine lv_aload_n hx hb dX8_about_50 rfl (lv_at hl 0 rfl) ?_
          refine z_get hx hb hU uU_X8 hown hK hP (p_101 hW) rfl rfl 1 (by decide) (hU _ uF_X8_7) rfl dX8_about_51 ?_
          refine lv_iconst (v := 2) hx hb dX8_about_54 rfl ?_
          refine z_ialdC (j := 2) hx hb hK hP (pA_102 hW) dX8_about_55 rfl (by decide) ?_
          exact z_iret hx hb hlocks hP hS hQ hr dX8_about_56 h
      · refine lv_aload_n hx hb dX8_about_37 rfl (lv_at hl 0 rfl) ?_
        refine z_get hx hb hU uU_X8 hown hK hP (p_101 hW) rfl rfl 1 (by decide) (hU _ uF_X8_7) rfl dX8_about_38 ?_
        refine lv_bipush (v := 6) hx hb dX8_about_41 rfl ?_
        refine z_ialdC (j := 6) hx hb hK hP (pA_102 hW) dX8_about_43 rfl (by decide) ?_
        exact z_iret hx hb hlocks hP hS hQ hr dX8_about_44 h
    · refine lv_aload_n hx hb dX8_about_25 rfl (lv_at hl 0 rfl) ?_
      refine z_get hx hb hU uU_X8 hown hK hP (p_101 hW) rfl rfl 1 (by decide) (hU _ uF_X8_7) rfl dX8_about_26 ?_
      refine lv_iconst (v := 1) hx hb dX8_about_29 rfl ?_
      refine z_ialdC (j := 1) hx hb hK hP (pA_102 hW) dX8_about_30 rfl (by decide) ?_
      exact z_iret hx hb hlocks hP hS hQ hr dX8_about_31 h
  · refine lv_aload_n hx hb dX8_about_13 rfl (lv_at hl 0 rfl) ?_
    refine z_get hx hb hU uU_X8 hown hK hP (p_101 hW) rfl rfl 1 (by decide) (hU _ uF_X8_7) rfl dX8_about_14 ?_
    refine lv_iconst (v := 0) hx hb dX8_about_17 rfl ?_
    refine z_ialdC (j := 0) hx hb hK hP (pA_102 hW) dX8_about_18 rfl (by decide) ?_
    exact z_iret hx hb hlocks hP hS hQ hr dX8_about_19 h

def fX8_down (a1 : Int32) (S : zT) : Option (Int32 × zT) :=
  zlet (zsi S 101 0 0) fun S_1 =>
  zbv (fX8_begins S_1) fun S_2 =>
  zbi (fX8_isTick a1 S_2) fun r_4 S_3 =>
  (if r_4 = 0 then some ((-1), S_3) else if ¬ ((23 + a1) < 0 ∨ 48 ≤ (23 + a1).toNatClampNeg) then some ((S_3.1 102 (23 + a1).toNatClampNeg), S_3) else none)
abbrev rmX8_down : Room := { frames := 2, cells := 0, slots := 0, locals := 43 }
theorem yd_X8_down : yX8_down.cls = RX8 ∧ yX8_down.cls ≠ "java/lang/invoke/MethodHandle" ∧ yX8_down.cls ≠ "java/lang/invoke/VarHandle" ∧ (parseMethodDescriptor yX8_down.desc).map (fun d => d.parameters.length) = some 1 := by decide +kernel
set_option maxRecDepth 100000 in
set_option maxHeartbeats 4000000 in
theorem ctX8_down {l : Launch} {dC : Nat → ClassId} {dI : Nat → Nat → Nat} {cI : ClassId × ClassId} {cW : List zSh} {q : Nat → Nat} (hq : zI cW q) (hW : zIs cI cW) {a1 : Int32} {S : zT} {o : Int32 × zT} (h : fX8_down a1 S = some o) : zCi l dC dI cI cW q yX8_down (Cond.code yX8_down cX8_down 2 (some .int) :: zU) rmX8_down [.ref (q 101), .int a1] S o := by
  refine zMet_i (lv := [(0, .ref (q 101)), (1, .int a1)]) (by decide) (Nat.le_of_ble_eq_true rfl) rfl ?_
  intro p e s m args below meth c Q hx hb hml hr hU hown hlocks hK hN hP hS ls hl hQ
  replace hown : s.vm.findClass RX8 = some m.cls := hown
  unfold fX8_down at h
  refine lv_aload_n hx hb dX8_down_0 rfl (lv_at hl 0 rfl) ?_
  refine lv_iconst (v := 0) hx hb dX8_down_1 rfl ?_
  refine z_puti hx hb hU uU_X8 tyX8 tyX8_ok nmX8 hown hq hK hP hS (p_101 hW) rfl rfl 0 (by decide) (hU _ uF_X8_34) rfl rfl rfl (Nat.le_of_ble_eq_true rfl) rfl dX8_down_2 h (fun S_1 H locs hP hS h => ?_)
  refine lv_aload_n hx hb dX8_down_5 rfl (lv_at hl 0 rfl) ?_
  refine z_callV_v hx hb hml hown hU hK hN hP hS 0 (p_101 hW) rfl rfl (zU_V uL_X8_49 uI_X8_begins uS_X8_begins uN_X8 uC_X8_begins) yd_X8_begins ⟨rfl, rfl⟩ ⟨Nat.le_of_ble_eq_true rfl, Nat.le_of_ble_eq_true rfl⟩ (As := []) (fun o h9 => ctX8_begins hq hW h9) rfl hl.1 rfl (Nat.le_of_ble_eq_true rfl) dX8_down_6 ⟨Nat.zero_le _, Nat.zero_le _⟩ h (fun S_2 H locs hP hS h => ?_)
  refine lv_aload_n hx hb dX8_down_9 rfl (lv_at hl 0 rfl) ?_
  refine lv_iload_n hx hb dX8_down_10 rfl (lv_at hl 1 rfl) ?_
  refine z_callV_i hx hb hml hown hU hK hN hP hS 1 (p_101 hW) rfl rfl (zU_V uL_X8_71 uI_X8_isTick uS_X8_isTick uN_X8 uC_X8_isTick) yd_X8_isTick ⟨rfl, rfl⟩ ⟨Nat.le_of_ble_eq_true rfl, Nat.le_of_ble_eq_true rfl⟩ (As := [.int a1]) (fun o h9 => ctX8_isTick hq hW h9) rfl hl.1 rfl (Nat.le_of_ble_eq_true rfl) dX8_down_11 ⟨Nat.zero_le _, Nat.zero_le _⟩ h (fun r_4 S_3 H locs hP hS h => ?_)
  refine z_if_eq (tgt := 29) hx hb dX8_down_14 (by decide) h (fun h => ?_) (fun h => ?_)
  · refine lv_iconst (v := (-1)) hx hb dX8_down_29 rfl ?_
    exact z_iret hx hb hlocks hP hS hQ hr dX8_down_30 h
  · refine lv_aload_n hx hb dX8_down_17 rfl (lv_at hl 0 rfl) ?_
    refine z_get hx hb hU uU_X8 hown hK hP (p_101 hW) rfl rfl 1 (by decide) (hU _ uF_X8_7) rfl dX8_down_18 ?_
    refine lv_bipush (v := 23) hx hb dX8_down_21 rfl ?_
    refine lv_iload_n hx hb dX8_down_23 rfl (lv_at hl 1 rfl) ?_
    refine lv_iadd hx hb dX8_down_24 ?_
    refine z_iald hx hb hK hP (pA_102 hW) dX8_down_25 h (fun h => ?_)
    refine lv_goto (tgt := 30) hx hb dX8_down_26 (by decide) ?_
    exact z_iret hx hb hlocks hP hS hQ hr dX8_down_30 h

def fX8_isDown (a1 : Int32) (a2 : Int32) (S : zT) : Option (Int32 × zT) :=
  if ¬ ((23 + a2) < 0 ∨ 48 ≤ (23 + a2).toNatClampNeg) then (if ((zshr (S.1 102 (23 + a2).toNatClampNeg) a1) &&& 1) = 1 then some (1, S) else some (0, S)) else none
abbrev rmX8_isDown : Room := { frames := 0, cells := 0, slots := 0, locals := 0 }
theorem yd_X8_isDown : yX8_isDown.cls = RX8 ∧ yX8_isDown.cls ≠ "java/lang/invoke/MethodHandle" ∧ yX8_isDown.cls ≠ "java/lang/invoke/VarHandle" ∧ (parseMethodDescriptor yX8_isDown.desc).map (fun d => d.parameters.length) = some 2 := by decide +kernel
set_option maxRecDepth 100000 in
set_option maxHeartbeats 4000000 in
theorem ctX8_isDown {l : Launch} {dC : Nat → ClassId} {dI : Nat → Nat → Nat} {cI : ClassId × ClassId} {cW : List zSh} {q : Nat → Nat} (hq : zI cW q) (hW : zIs cI cW) {a1 : Int32} {a2 : Int32} {S : zT} {o : Int32 × zT} (h : fX8_isDown a1 a2 S = some o) : zCi l dC dI cI cW q yX8_isDown (Cond.code yX8_isDown cX8_isDown 3 (some .boolean) :: zU) rmX8_isDown [.ref (q 101), .int a1, .int a2] S o := by
  refine zMet_i (lv := [(0, .ref (q 101)), (1, .int a1), (2, .int a2)]) (by decide) (Nat.le_of_ble_eq_true rfl) rfl ?_
  intro p e s m args below meth c Q hx hb hml hr hU hown hlocks hK hN hP hS ls hl hQ
  replace hown : s.vm.findClass RX8 = some m.cls := hown
  unfold fX8_isDown at h
  refine lv_aload_n hx hb dX8_isDown_0 rfl (lv_at hl 0 rfl) ?_
  refine z_get hx hb hU uU_X8 hown hK hP (p_101 hW) rfl rfl 1 (by decide) (hU _ uF_X8_7) rfl dX8_isDown_1 ?_
  refine lv_bipush (v := 23) hx hb dX8_isDown_4 rfl ?_
  refine lv_iload_n hx hb dX8_isDown_6 rfl (lv_at hl 2 rfl) ?_
  refine lv_iadd hx hb dX8_isDown_7 ?_
  refine z_iald hx hb hK hP (pA_102 hW) dX8_isDown_8 h (fun h => ?_)
  refine lv_iload_n hx hb dX8_isDown_9 rfl (lv_at hl 1 rfl) ?_
  refine lv_ishr hx hb dX8_isDown_10 ?_
  refine lv_iconst (v := 1) hx hb dX8_isDown_11 rfl ?_
  refine lv_iand hx hb dX8_isDown_12 ?_
  refine lv_iconst (v := 1) hx hb dX8_isDown_13 rfl ?_
  refine z_icmp_ne (tgt := 21) hx hb dX8_isDown_14 (by decide) h (fun h => ?_) (fun h => ?_)
  · refine lv_iconst (v := 0) hx hb dX8_isDown_21 rfl ?_
    exact z_zretC hx hb hlocks hP hS hQ hr dX8_isDown_22 (Or.inl rfl) h
  · refine lv_iconst (v := 1) hx hb dX8_isDown_17 rfl ?_
    refine lv_goto (tgt := 22) hx hb dX8_isDown_18 (by decide) ?_
    exact z_zretC hx hb hlocks hP hS hQ hr dX8_isDown_22 (Or.inr rfl) h

def fX8_ahead_2 (rec : Int32 → Int32 → Int32 → zT → Option (Int32 × zT)) (x1 : Int32) (x2 : Int32) (x3 : Int32) (S : zT) : Option (Int32 × zT) :=
  (if (S.1 102 6) ≤ x3 then some (x3, S) else if ¬ (S.1 102 6) = 0 then zbi (fX8_isDown x1 ((((x2 - x3) - 1) + (2 * (S.1 102 6))) - (((x2 - x3) - 1) + (2 * (S.1 102 6))) / (S.1 102 6) * (S.1 102 6)) S) fun r_2 S_1 =>
  (if r_2 = 0 then some (x3, S_1) else rec x1 x2 (x3 + 1) S_1) else none)
def fX8_ahead (a1 : Int32) (a2 : Int32) (S : zT) : Option (Int32 × zT) :=
  (zfix (fun _ _ _ _ => none) fX8_ahead_2 zF) a1 a2 0 S
abbrev rmX8_ahead : Room := { frames := 1, cells := 0, slots := 0, locals := 22 }
theorem yd_X8_ahead : yX8_ahead.cls = RX8 ∧ yX8_ahead.cls ≠ "java/lang/invoke/MethodHandle" ∧ yX8_ahead.cls ≠ "java/lang/invoke/VarHandle" ∧ (parseMethodDescriptor yX8_ahead.desc).map (fun d => d.parameters.length) = some 2 := by decide +kernel
set_option maxRecDepth 100000 in
set_option maxHeartbeats 4000000 in
theorem ctX8_ahead {l : Launch} {dC : Nat → ClassId} {dI : Nat → Nat → Nat} {cI : ClassId × ClassId} {cW : List zSh} {q : Nat → Nat} (hq : zI cW q) (hW : zIs cI cW) {a1 : Int32} {a2 : Int32} {S : zT} {o : Int32 × zT} (h : fX8_ahead a1 a2 S = some o) : zCi l dC dI cI cW q yX8_ahead (Cond.code yX8_ahead cX8_ahead 4 (some .int) :: zU) rmX8_ahead [.ref (q 101), .int a1, .int a2] S o := by
  refine zMet_i (lv := [(0, .ref (q 101)), (1, .int a1), (2, .int a2)]) (by decide) (Nat.le_of_ble_eq_true rfl) rfl ?_
  intro p e s m args below meth c Q hx hb hml hr hU hown hlocks hK hN hP hS ls hl hQ
  replace hown : s.vm.findClass RX8 = some m.cls := hown
  unfold fX8_ahead at h
  have L2 : ∀ (n2 : Nat) (x1 : Int32) (x2 : Int32) (x3 : Int32) (S : zT) (H : Heap) (locs : List Loc) (ls : Array Slot), va_P (dC, dI) vwCl (zWd cI cW q S) H → va_S (zA cW q) s.heap H locs → lv_has ls 4 [(0, .ref (q 101)), (1, .int x1), (2, .int x2), (3, .int x3)] → (zfix (fun _ _ _ _ => none) fX8_ahead_2 n2) x1 x2 x3 S = some o → W p l e rmX8_ahead s m args below meth c H locs 0 0 Q (F0 m 2 ls []) := by
    intro n2
    induction n2 with
    | zero => intro x1 x2 x3 S H locs ls hP hS hl h; exact zno (show (none : Option (Int32 × zT)) = some o from h)
    | succ n2 ih2 =>
      intro x1 x2 x3 S H locs ls hP hS hl h
      replace h : fX8_ahead_2 (zfix (fun _ _ _ _ => none) fX8_ahead_2 n2) x1 x2 x3 S = some o := h
      unfold fX8_ahead_2 at h
      refine lv_iload_n hx hb dX8_ahead_2 rfl (lv_at hl 3 rfl) ?_
      refine lv_aload_n hx hb dX8_ahead_3 rfl (lv_at hl 0 rfl) ?_
      refine z_get hx hb hU uU_X8 hown hK hP (p_101 hW) rfl rfl 1 (by decide) (hU _ uF_X8_7) rfl dX8_ahead_4 ?_
      refine lv_bipush (v := 6) hx hb dX8_ahead_7 rfl ?_
      refine z_ialdC (j := 6) hx hb hK hP (pA_102 hW) dX8_ahead_9 rfl (by decide) ?_
      refine z_icmp_ge (tgt := 51) hx hb dX8_ahead_10 (by decide) h (fun h => ?_) (fun h => ?_)
      · refine lv_iload_n hx hb dX8_ahead_51 rfl (lv_at hl 3 rfl) ?_
        exact z_iret hx hb hlocks hP hS hQ hr dX8_ahead_52 h
      · refine lv_aload_n hx hb dX8_ahead_13 rfl (lv_at hl 0 rfl) ?_
        refine lv_iload_n hx hb dX8_ahead_14 rfl (lv_at hl 1 rfl) ?_
        refine lv_iload_n hx hb dX8_ahead_15 rfl (lv_at hl 2 rfl) ?_
        refine lv_iload_n hx hb dX8_ahead_16 rfl (lv_at hl 3 rfl) ?_
        refine lv_isub hx hb dX8_ahead_17 ?_
        refine lv_iconst (v := 1) hx hb dX8_ahead_18 rfl ?_
        refine lv_isub hx hb dX8_ahead_19 ?_
        refine lv_iconst (v := 2) hx hb dX8_ahead_20 rfl ?_
        refine lv_aload_n hx hb dX8_ahead_21 rfl (lv_at hl 0 rfl) ?_
        refine z_get hx hb hU uU_X8 hown hK hP (p_101 hW) rfl rfl 1 (by decide) (hU _ uF_X8_7) rfl dX8_ahead_22 ?_
        refine lv_bipush (v := 6) hx hb dX8_ahead_25 rfl ?_
        refine z_ialdC (j := 6) hx hb hK hP (pA_102 hW) dX8_ahead_27 rfl (by decide) ?_
        refine lv_imul hx hb dX8_ahead_28 ?_
        refine lv_iadd hx hb dX8_ahead_29 ?_
        refine lv_aload_n hx hb dX8_ahead_30 rfl (lv_at hl 0 rfl) ?_
        refine z_get hx hb hU uU_X8 hown hK hP (p_101 hW) rfl rfl 1 (by decide) (hU _ uF_X8_7) rfl dX8_ahead_31 ?_
        refine lv_bipush (v := 6) hx hb dX8_ahead_34 rfl ?_
        refine z_ialdC (j := 6) hx hb hK hP (pA_102 hW) dX8_ahead_36 rfl (by decide) ?_
        refine z_irem hx hb dX8_ahead_37 h (fun h => ?_)
        refine z_callV_i hx hb hml hown hU hK hN hP hS 2 (p_101 hW) rfl rfl (zU_V uL_X8_91 uI_X8_isDown uS_X8_isDown uN_X8 uC_X8_isDown) yd_X8_isDown ⟨rfl, rfl⟩ ⟨Nat.le_of_ble_eq_true rfl, Nat.le_of_ble_eq_true rfl⟩ (As := [.int x1, .int ((((x2 - x3) - 1) + (2 * (S.1 102 6))) - (((x2 - x3) - 1) + (2 * (S.1 102 6))) / (S.1 102 6) * (S.1 102 6))]) (fun o h9 => ctX8_isDown hq hW h9) rfl hl.1 rfl (Nat.le_of_ble_eq_true rfl) dX8_ahead_38 ⟨Nat.zero_le _, Nat.zero_le _⟩ h (fun r_2 S_1 H locs hP hS h => ?_)
        refine z_if_eq (tgt := 51) hx hb dX8_ahead_41 (by decide) h (fun h => ?_) (fun h => ?_)
        · refine lv_iload_n hx hb dX8_ahead_51 rfl (lv_at hl 3 rfl) ?_
          exact z_iret hx hb hlocks hP hS hQ hr dX8_ahead_52 h
        · refine lv_iload_n hx hb dX8_ahead_44 rfl (lv_at hl 3 rfl) ?_
          refine lv_iconst (v := 1) hx hb dX8_ahead_45 rfl ?_
          refine lv_iadd hx hb dX8_ahead_46 ?_
          refine lv_istore_n (lv' := [(3, .int (x3 + 1)), (0, .ref (q 101)), (1, .int x1), (2, .int x2)]) hx hb dX8_ahead_47 rfl hl (by decide) rfl (fun ls hl => ?_)
          refine lv_goto (tgt := 2) hx hb dX8_ahead_48 (by decide) ?_
          exact ih2 x1 x2 (x3 + 1) _ _ _ ls hP hS (lv_sub hl [1, 2, 3, 0] rfl) h
  refine lv_iconst (v := 0) hx hb dX8_ahead_0 rfl ?_
  refine lv_istore_n (lv' := [(3, .int 0), (0, .ref (q 101)), (1, .int a1), (2, .int a2)]) hx hb dX8_ahead_1 rfl hl (by decide) rfl (fun ls hl => ?_)
  exact L2 zF a1 a2 0 _ _ _ ls hP hS (lv_sub hl [1, 2, 3, 0] rfl) h

def fX8_behind_2 (rec : Int32 → Int32 → Int32 → zT → Option (Int32 × zT)) (x1 : Int32) (x2 : Int32) (x3 : Int32) (S : zT) : Option (Int32 × zT) :=
  (if (S.1 102 6) ≤ x3 then some (x3, S) else if ¬ (S.1 102 6) = 0 then zbi (fX8_isDown x1 (((x2 + x3) + 1) - ((x2 + x3) + 1) / (S.1 102 6) * (S.1 102 6)) S) fun r_2 S_1 =>
  (if r_2 = 0 then some (x3, S_1) else rec x1 x2 (x3 + 1) S_1) else none)
def fX8_behind (a1 : Int32) (a2 : Int32) (S : zT) : Option (Int32 × zT) :=
  (zfix (fun _ _ _ _ => none) fX8_behind_2 zF) a1 a2 0 S
abbrev rmX8_behind : Room := { frames := 1, cells := 0, slots := 0, locals := 22 }
theorem yd_X8_behind : yX8_behind.cls = RX8 ∧ yX8_behind.cls ≠ "java/lang/invoke/MethodHandle" ∧ yX8_behind.cls ≠ "java/lang/invoke/VarHandle" ∧ (parseMethodDescriptor yX8_behind.desc).map (fun d => d.parameters.length) = some 2 := by decide +kernel
set_option maxRecDepth 100000 in
set_option maxHeartbeats 4000000 in
theorem ctX8_behind {l : Launch} {dC : Nat → ClassId} {dI : Nat → Nat → Nat} {cI : ClassId × ClassId} {cW : List zSh} {q : Nat → Nat} (hq : zI cW q) (hW : zIs cI cW) {a1 : Int32} {a2 : Int32} {S : zT} {o : Int32 × zT} (h : fX8_behind a1 a2 S = some o) : zCi l dC dI cI cW q yX8_behind (Cond.code yX8_behind cX8_behind 4 (some .int) :: zU) rmX8_behind [.ref (q 101), .int a1, .int a2] S o := by
  refine zMet_i (lv := [(0, .ref (q 101)), (1, .int a1), (2, .int a2)]) (by decide) (Nat.le_of_ble_eq_true rfl) rfl ?_
  intro p e s m args below meth c Q hx hb hml hr hU hown hlocks hK hN hP hS ls hl hQ
  replace hown : s.vm.findClass RX8 = some m.cls := hown
  unfold fX8_behind at h
  have L2 : ∀ (n2 : Nat) (x1 : Int32) (x2 : Int32) (x3 : Int32) (S : zT) (H : Heap) (locs : List Loc) (ls : Array Slot), va_P (dC, dI) vwCl (zWd cI cW q S) H → va_S (zA cW q) s.heap H locs → lv_has ls 4 [(0, .ref (q 101)), (1, .int x1), (2, .int x2), (3, .int x3)] → (zfix (fun _ _ _ _ => none) fX8_behind_2 n2) x1 x2 x3 S = some o → W p l e rmX8_behind s m args below meth c H locs 0 0 Q (F0 m 2 ls []) := by
    intro n2
    induction n2 with
    | zero => intro x1 x2 x3 S H locs ls hP hS hl h; exact zno (show (none : Option (Int32 × zT)) = some o from h)
    | succ n2 ih2 =>
      intro x1 x2 x3 S H locs ls hP hS hl h
      replace h : fX8_behind_2 (zfix (fun _ _ _ _ => none) fX8_behind_2 n2) x1 x2 x3 S = some o := h
      unfold fX8_behind_2 at h
      refine lv_iload_n hx hb dX8_behind_2 rfl (lv_at hl 3 rfl) ?_
      refine lv_aload_n hx hb dX8_behind_3 rfl (lv_at hl 0 rfl) ?_
      refine z_get hx hb hU uU_X8 hown hK hP (p_101 hW) rfl rfl 1 (by decide) (hU _ uF_X8_7) rfl dX8_behind_4 ?_
      refine lv_bipush (v := 6) hx hb dX8_behind_7 rfl ?_
      refine z_ialdC (j := 6) hx hb hK hP (pA_102 hW) dX8_behind_9 rfl (by decide) ?_
      refine z_icmp_ge (tgt := 41) hx hb dX8_behind_10 (by decide) h (fun h => ?_) (fun h => ?_)
      · refine lv_iload_n hx hb dX8_behind_41 rfl (lv_at hl 3 rfl) ?_
        exact z_iret hx hb hlocks hP hS hQ hr dX8_behind_42 h
      · refine lv_aload_n hx hb dX8_behind_13 rfl (lv_at hl 0 rfl) ?_
        refine lv_iload_n hx hb dX8_behind_14 rfl (lv_at hl 1 rfl) ?_
        refine lv_iload_n hx hb dX8_behind_15 rfl (lv_at hl 2 rfl) ?_
        refine lv_iload_n hx hb dX8_behind_16 rfl (lv_at hl 3 rfl) ?_
        refine lv_iadd hx hb dX8_behind_17 ?_
        refine lv_iconst (v := 1) hx hb dX8_behind_18 rfl ?_
        refine lv_iadd hx hb dX8_behind_19 ?_
        refine lv_aload_n hx hb dX8_behind_20 rfl (lv_at hl 0 rfl) ?_
        refine z_get hx hb hU uU_X8 hown hK hP (p_101 hW) rfl rfl 1 (by decide) (hU _ uF_X8_7) rfl dX8_behind_21 ?_
        refine lv_bipush (v := 6) hx hb dX8_behind_24 rfl ?_
        refine z_ialdC (j := 6) hx hb hK hP (pA_102 hW) dX8_behind_26 rfl (by decide) ?_
        refine z_irem hx hb dX8_behind_27 h (fun h => ?_)
        refine z_callV_i hx hb hml hown hU hK hN hP hS 2 (p_101 hW) rfl rfl (zU_V uL_X8_91 uI_X8_isDown uS_X8_isDown uN_X8 uC_X8_isDown) yd_X8_isDown ⟨rfl, rfl⟩ ⟨Nat.le_of_ble_eq_true rfl, Nat.le_of_ble_eq_true rfl⟩ (As := [.int x1, .int (((x2 + x3) + 1) - ((x2 + x3) + 1) / (S.1 102 6) * (S.1 102 6))]) (fun o h9 => ctX8_isDown hq hW h9) rfl hl.1 rfl (Nat.le_of_ble_eq_true rfl) dX8_behind_28 ⟨Nat.zero_le _, Nat.zero_le _⟩ h (fun r_2 S_1 H locs hP hS h => ?_)
        refine z_if_eq (tgt := 41) hx hb dX8_behind_31 (by decide) h (fun h => ?_) (fun h => ?_)
        · refine lv_iload_n hx hb dX8_behind_41 rfl (lv_at hl 3 rfl) ?_
          exact z_iret hx hb hlocks hP hS hQ hr dX8_behind_42 h
        · refine lv_iload_n hx hb dX8_behind_34 rfl (lv_at hl 3 rfl) ?_
          refine lv_iconst (v := 1) hx hb dX8_behind_35 rfl ?_
          refine lv_iadd hx hb dX8_behind_36 ?_
          refine lv_istore_n (lv' := [(3, .int (x3 + 1)), (0, .ref (q 101)), (1, .int x1), (2, .int x2)]) hx hb dX8_behind_37 rfl hl (by decide) rfl (fun ls hl => ?_)
          refine lv_goto (tgt := 2) hx hb dX8_behind_38 (by decide) ?_
          exact ih2 x1 x2 (x3 + 1) _ _ _ ls hP hS (lv_sub hl [1, 2, 3, 0] rfl) h
  refine lv_iconst (v := 0) hx hb dX8_behind_0 rfl ?_
  refine lv_istore_n (lv' := [(3, .int 0), (0, .ref (q 101)), (1, .int a1), (2, .int a2)]) hx hb dX8_behind_1 rfl hl (by decide) rfl (fun ls hl => ?_)
  exact L2 zF a1 a2 0 _ _ _ ls hP hS (lv_sub hl [1, 2, 3, 0] rfl) h

