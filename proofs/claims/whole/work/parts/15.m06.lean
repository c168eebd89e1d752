def fX6_hasGaitOf_2 (b b1 : Nat) (rec : Int32 → zT → Option (Int32 × zT)) (x2 : Int32) (S : zT) : Option (Int32 × zT) :=
  (if (S.1 b 6) ≤ x2 then (if (S.1 b 6) = (S.1 b1 6) then some (1, S) else some (0, S)) else zbi (fX2_at (b + 5) 16 x2 S) fun r_2 S_1 =>
  zbi (fX2_at (b1 + 5) 16 x2 S_1) fun r_4 S_3 =>
  (if r_2 = r_4 then rec (x2 + 1) S_3 else some (0, S_3)))
def fX6_hasGaitOf (b b1 : Nat) (S : zT) : Option (Int32 × zT) :=
  (zfix (fun _ _ => none) (fX6_hasGaitOf_2 b b1) zF) 0 S
abbrev rmX6_hasGaitOf : Room := { frames := 1, cells := 0, slots := 0, locals := 21 }
theorem yd_X6_hasGaitOf : yX6_hasGaitOf.cls = RX6 ∧ yX6_hasGaitOf.cls ≠ "java/lang/invoke/MethodHandle" ∧ yX6_hasGaitOf.cls ≠ "java/lang/invoke/VarHandle" ∧ (parseMethodDescriptor yX6_hasGaitOf.desc).map (fun d => d.parameters.length) = some 1 := by decide +kernel
set_option maxRecDepth 100000 in
set_option maxHeartbeats 4000000 in
theorem ctX6_hasGaitOf {l : Launch} {dC : Nat → ClassId} {dI : Nat → Nat → Nat} {cI : ClassId × ClassId} {cW : List zSh} {q : Nat → Nat} (hq : zI cW q) {b : Nat} {b1 : Nat} (hb0 : isWk cI cW b) (hb1 : isWk cI cW b1) {S : zT} {o : Int32 × zT} (h : fX6_hasGaitOf b b1 S = some o) : zCi l dC dI cI cW q yX6_hasGaitOf (Cond.code yX6_hasGaitOf cX6_hasGaitOf 3 (some .boolean) :: zU) rmX6_hasGaitOf [.ref (q b), .ref (q b1)] S o := by
  refine zMet_i (lv := [(0, .ref (q b)), (1, .ref (q b1))]) (by decide) (Nat.le_of_ble_eq_true rfl) rfl ?_
  intro p e s m args below meth c Q hx hb hml hr hU hown hlocks hK hN hP hS ls hl hQ
  replace hown : s.vm.findClass RX6 = some m.cls := hown
  unfold fX6_hasGaitOf at h
  have L2 : ∀ (n2 : Nat) (x2 : Int32) (S : zT) (H : Heap) (locs : List Loc) (ls : Array Slot), va_P (dC, dI) vwCl (zWd cI cW q S) H → va_S (zA cW q) s.heap H locs → lv_has ls 3 [(0, .ref (q b)), (1, .ref (q b1)), (2, .int x2)] → (zfix (fun _ _ => none) (fX6_hasGaitOf_2 b b1) n2) x2 S = some o → W p l e rmX6_hasGaitOf s m args below meth c H locs 0 0 Q (F0 m 2 ls []) := by
    intro n2
    induction n2 with
    | zero => intro x2 S H locs ls hP hS hl h; exact zno (show (none : Option (Int32 × zT)) = some o from h)
    | succ n2 ih2 =>
      intro x2 S H locs ls hP hS hl h
      replace h : fX6_hasGaitOf_2 b b1 (zfix (fun _ _ => none) (fX6_hasGaitOf_2 b b1) n2) x2 S = some o := h
      unfold fX6_hasGaitOf_2 at h
      refine lv_iload_n hx hb dX6_hasGaitOf_2 rfl (lv_at hl 2 rfl) ?_
      refine lv_aload_n hx hb dX6_hasGaitOf_3 rfl (lv_at hl 0 rfl) ?_
      refine z_get hx hb hU uU_X6 hown hK hP hb0.1 rfl rfl 6 (by decide) (hU _ uF_X6_49) rfl dX6_hasGaitOf_4 ?_
      refine z_icmp_ge (tgt := 37) hx hb dX6_hasGaitOf_7 (by decide) h (fun h => ?_) (fun h => ?_)
      · refine lv_aload_n hx hb dX6_hasGaitOf_37 rfl (lv_at hl 0 rfl) ?_
        refine z_get hx hb hU uU_X6 hown hK hP hb0.1 rfl rfl 6 (by decide) (hU _ uF_X6_49) rfl dX6_hasGaitOf_38 ?_
        refine lv_aload_n hx hb dX6_hasGaitOf_41 rfl (lv_at hl 1 rfl) ?_
        refine z_get hx hb hU uU_X6 hown hK hP hb1.1 rfl rfl 6 (by decide) (hU _ uF_X6_49) rfl dX6_hasGaitOf_42 ?_
        refine z_icmp_ne (tgt := 52) hx hb dX6_hasGaitOf_45 (by decide) h (fun h => ?_) (fun h => ?_)
        · refine lv_iconst (v := 0) hx hb dX6_hasGaitOf_52 rfl ?_
          exact z_zretC hx hb hlocks hP hS hQ hr dX6_hasGaitOf_53 (Or.inl rfl) h
        · refine lv_iconst (v := 1) hx hb dX6_hasGaitOf_48 rfl ?_
          refine lv_goto (tgt := 53) hx hb dX6_hasGaitOf_49 (by decide) ?_
          exact z_zretC hx hb hlocks hP hS hQ hr dX6_hasGaitOf_53 (Or.inr rfl) h
      · refine lv_aload_n hx hb dX6_hasGaitOf_10 rfl (lv_at hl 0 rfl) ?_
        refine z_get hx hb hU uU_X6 hown hK hP hb0.1 rfl rfl 9 (by decide) (hU _ uF_X6_23) rfl dX6_hasGaitOf_11 ?_
        refine lv_iload_n hx hb dX6_hasGaitOf_14 rfl (lv_at hl 2 rfl) ?_
        refine z_callV_i hx hb hml hown hU hK hN hP hS 1 hb0.2.2.2.1 rfl rfl (zU_V uL_X6_60 uI_X2_at uS_X2_at uN_X2 uC_X2_at) yd_X2_at ⟨rfl, rfl⟩ ⟨Nat.le_of_ble_eq_true rfl, Nat.le_of_ble_eq_true rfl⟩ (As := [.int x2]) (fun o h9 => ctX2_at hq hb0.2.2.2 h9) rfl hl.1 rfl (Nat.le_of_ble_eq_true rfl) dX6_hasGaitOf_15 ⟨Nat.zero_le _, Nat.zero_le _⟩ h (fun r_2 S_1 H locs hP hS h => ?_)
        refine lv_aload_n hx hb dX6_hasGaitOf_18 rfl (lv_at hl 1 rfl) ?_
        refine z_get hx hb hU uU_X6 hown hK hP hb1.1 rfl rfl 9 (by decide) (hU _ uF_X6_23) rfl dX6_hasGaitOf_19 ?_
        refine lv_iload_n hx hb dX6_hasGaitOf_22 rfl (lv_at hl 2 rfl) ?_
        refine z_callV_i hx hb hml hown hU hK hN hP hS 1 hb1.2.2.2.1 rfl rfl (zU_V uL_X6_60 uI_X2_at uS_X2_at uN_X2 uC_X2_at) yd_X2_at ⟨rfl, rfl⟩ ⟨Nat.le_of_ble_eq_true rfl, Nat.le_of_ble_eq_true rfl⟩ (As := [.int x2]) (fun o h9 => ctX2_at hq hb1.2.2.2 h9) rfl hl.1 rfl (Nat.le_of_ble_eq_true rfl) dX6_hasGaitOf_23 ⟨Nat.zero_le _, Nat.zero_le _⟩ h (fun r_4 S_3 H locs hP hS h => ?_)
        refine z_icmp_eq (tgt := 31) hx hb dX6_hasGaitOf_26 (by decide) h (fun h => ?_) (fun h => ?_)
        · refine lv_iinc (v := (x2 + 1)) (lv' := [(2, .int (x2 + 1)), (0, .ref (q b)), (1, .ref (q b1))]) hx hb dX6_hasGaitOf_31 hl (k := 2) rfl rfl (by decide) rfl (fun ls hl => ?_)
          refine lv_goto (tgt := 2) hx hb dX6_hasGaitOf_34 (by decide) ?_
          exact ih2 (x2 + 1) _ _ _ ls hP hS (lv_sub hl [1, 2, 0] rfl) h
        · refine lv_iconst (v := 0) hx hb dX6_hasGaitOf_29 rfl ?_
          exact z_zretC hx hb hlocks hP hS hQ hr dX6_hasGaitOf_30 (Or.inl rfl) h
  refine lv_iconst (v := 0) hx hb dX6_hasGaitOf_0 rfl ?_
  refine lv_istore_n (lv' := [(2, .int 0), (0, .ref (q b)), (1, .ref (q b1))]) hx hb dX6_hasGaitOf_1 rfl hl (by decide) rfl (fun ls hl => ?_)
  exact L2 zF 0 _ _ _ ls hP hS (lv_sub hl [1, 2, 0] rfl) h

def fX7_rank_104 (k55 : Int32 → Int32 → Int32 → zT → Option (Int32 × zT)) (x3 : Int32) (x4 : Int32) (x5 : Int32) (S : zT) : Option (Int32 × zT) :=
  zbv (fX3_goOn S) fun S_1 =>
  k55 x3 x4 (x5 + 1) S_1
def fX7_rank_55 (rec : Int32 → Int32 → Int32 → zT → Option (Int32 × zT)) (x3 : Int32) (x4 : Int32) (x5 : Int32) (S : zT) : Option (Int32 × zT) :=
  (if x3 ≤ x5 then some ((-1), S) else zbi (fX5_isSteady S) fun r_3 S_2 =>
  zbi (fX6_hasGaitOf 68 1 S_2) fun r_5 S_4 =>
  (if r_5 = 0 then (if r_3 = 0 then (fX7_rank_104 rec) x3 x4 x5 S_4 else (fX7_rank_104 rec) x3 (x4 + 1) x5 S_4) else (if r_3 = 0 then some ((-1), S_4) else some (x4, S_4))))
def fX7_rank (a1 : Int32) (a2 : Int32) (S : zT) : Option (Int32 × zT) :=
  zbi (fX7_areTold a1 a2 (S.1 1 0) S) fun r_7 S_6 =>
  (if r_7 = 0 then some ((-1), S_6) else (if (S_6.1 1 6) = a1 then zbv (fX6_copyFrom 68 1 S_6) fun S_8 =>
  zbi (fX3_start a1 a2 S_8) fun r_10 S_9 =>
  (zfix (fun _ _ _ _ => none) fX7_rank_55 zF) r_10 0 0 S_9 else some ((-1), S_6)))
abbrev rmX7_rank : Room := { frames := 6, cells := 0, slots := 0, locals := 135 }
theorem yd_X7_rank : yX7_rank.cls = RX7 ∧ yX7_rank.cls ≠ "java/lang/invoke/MethodHandle" ∧ yX7_rank.cls ≠ "java/lang/invoke/VarHandle" ∧ (parseMethodDescriptor yX7_rank.desc).map (fun d => d.parameters.length) = some 2 := by decide +kernel
set_option maxRecDepth 100000 in
set_option maxHeartbeats 4000000 in
theorem ctX7_rank {l : Launch} {dC : Nat → ClassId} {dI : Nat → Nat → Nat} {cI : ClassId × ClassId} {cW : List zSh} {q : Nat → Nat} (hq : zI cW q) (hW : zIs cI cW) {a1 : Int32} {a2 : Int32} {S : zT} {o : Int32 × zT} (h : fX7_rank a1 a2 S = some o) : zCi l dC dI cI cW q yX7_rank (Cond.code yX7_rank cX7_rank 7 (some .int) :: zU) rmX7_rank [.ref (q 0), .int a1, .int a2] S o := by
  refine zMet_i (lv := [(0, .ref (q 0)), (1, .int a1), (2, .int a2)]) (by decide) (Nat.le_of_ble_eq_true rfl) rfl ?_
  intro p e s m args below meth c Q hx hb hml hr hU hown hlocks hK hN hP hS ls hl hQ
  replace hown : s.vm.findClass RX7 = some m.cls := hown
  unfold fX7_rank at h
  have L55 : ∀ (n55 : Nat) (x3 : Int32) (x4 : Int32) (x5 : Int32) (S : zT) (H : Heap) (locs : List Loc) (ls : Array Slot), va_P (dC, dI) vwCl (zWd cI cW q S) H → va_S (zA cW q) s.heap H locs → lv_has ls 7 [(0, .ref (q 0)), (3, .int x3), (4, .int x4), (5, .int x5)] → (zfix (fun _ _ _ _ => none) fX7_rank_55 n55) x3 x4 x5 S = some o → W p l e rmX7_rank s m args below meth c H locs 0 0 Q (F0 m 55 ls []) := by
    intro n55
    induction n55 with
    | zero => intro x3 x4 x5 S H locs ls hP hS hl h; exact zno (show (none : Option (Int32 × zT)) = some o from h)
    | succ n55 ih55 =>
      intro x3 x4 x5 S H locs ls hP hS hl h
      replace h : fX7_rank_55 (zfix (fun _ _ _ _ => none) fX7_rank_55 n55) x3 x4 x5 S = some o := h
      unfold fX7_rank_55 at h
      have L104 : ∀ (x3 : Int32) (x4 : Int32) (x5 : Int32) (S : zT) (H : Heap) (locs : List Loc) (ls : Array Slot), va_P (dC, dI) vwCl (zWd cI cW q S) H → va_S (zA cW q) s.heap H locs → lv_has ls 7 [(0, .ref (q 0)), (3, .int x3), (4, .int x4), (5, .int x5)] → (fX7_rank_104 (zfix (fun _ _ _ _ => none) fX7_rank_55 n55)) x3 x4 x5 S = some o → W p l e rmX7_rank s m args below meth c H locs 0 0 Q (F0 m 104 ls []) := by
        intro x3 x4 x5 S H locs ls hP hS hl h
        unfold fX7_rank_104 at h
        refine lv_aload_n hx hb dX7_rank_104 rfl (lv_at hl 0 rfl) ?_
        refine z_get hx hb hU uU_X7 hown hK hP (p_0 hW) rfl rfl 2 (by decide) (hU _ uF_X7_26) rfl dX7_rank_105 ?_
        refine z_callV_v hx hb hml hown hU hK hN hP hS 0 (p_66 hW) rfl rfl (zU_V uL_X7_200 uI_X3_goOn uS_X3_goOn uN_X3 uC_X3_goOn) yd_X3_goOn ⟨rfl, rfl⟩ ⟨Nat.le_of_ble_eq_true rfl, Nat.le_of_ble_eq_true rfl⟩ (As := []) (fun o h9 => ctX3_goOn hq hW h9) rfl hl.1 rfl (Nat.le_of_ble_eq_true rfl) dX7_rank_108 ⟨Nat.zero_le _, Nat.zero_le _⟩ h (fun S_1 H locs hP hS h => ?_)
        refine lv_iinc (v := (x5 + 1)) (lv' := [(5, .int (x5 + 1)), (0, .ref (q 0)), (3, .int x3), (4, .int x4)]) hx hb dX7_rank_111 hl (k := 3) rfl rfl (by decide) rfl (fun ls hl => ?_)
        refine lv_goto (tgt := 55) hx hb dX7_rank_114 (by decide) ?_
        exact ih55 x3 x4 (x5 + 1) _ _ _ ls hP hS (lv_sub hl [1, 2, 3, 0] rfl) h
      refine lv_iload hx hb dX7_rank_55 (lv_at hl 3 rfl) ?_
      refine lv_iload_n hx hb dX7_rank_57 rfl (lv_at hl 1 rfl) ?_
      refine z_icmp_ge (tgt := 117) hx hb dX7_rank_58 (by decide) h (fun h => ?_) (fun h => ?_)
      · refine lv_iconst (v := (-1)) hx hb dX7_rank_117 rfl ?_
        exact z_iret hx hb hlocks hP hS hQ hr dX7_rank_118 h
      · refine lv_aload_n hx hb dX7_rank_61 rfl (lv_at hl 0 rfl) ?_
        refine z_get hx hb hU uU_X7 hown hK hP (p_0 hW) rfl rfl 3 (by decide) (hU _ uF_X7_34) rfl dX7_rank_62 ?_
        refine z_callV_i hx hb hml hown hU hK hN hP hS 0 (p_67 hW) rfl rfl (zU_V uL_X7_160 uI_X5_isSteady uS_X5_isSteady uN_X5 uC_X5_isSteady) yd_X5_isSteady ⟨rfl, rfl⟩ ⟨Nat.le_of_ble_eq_true rfl, Nat.le_of_ble_eq_true rfl⟩ (As := []) (fun o h9 => ctX5_isSteady hq hW h9) rfl hl.1 rfl (Nat.le_of_ble_eq_true rfl) dX7_rank_65 ⟨Nat.zero_le _, Nat.zero_le _⟩ h (fun r_3 S_2 H locs hP hS h => ?_)
        refine lv_istore (lv' := [(6, .int r_3), (0, .ref (q 0)), (3, .int x3), (4, .int x4), (5, .int x5)]) hx hb dX7_rank_68 hl (by decide) rfl (fun ls hl => ?_)
        refine lv_aload_n hx hb dX7_rank_70 rfl (lv_at hl 1 rfl) ?_
        refine z_get hx hb hU uU_X7 hown hK hP (p_0 hW) rfl rfl 4 (by decide) (hU _ uF_X7_40) rfl dX7_rank_71 ?_
        refine lv_aload_n hx hb dX7_rank_74 rfl (lv_at hl 1 rfl) ?_
        refine z_get hx hb hU uU_X7 hown hK hP (p_0 hW) rfl rfl 0 (by decide) (hU _ uF_X7_12) rfl dX7_rank_75 ?_
        refine z_callV_i hx hb hml hown hU hK hN hP hS 1 (pW_68 hW).1 rfl rfl (zU_V uL_X7_203 uI_X6_hasGaitOf uS_X6_hasGaitOf uN_X6 uC_X6_hasGaitOf) yd_X6_hasGaitOf ⟨rfl, rfl⟩ ⟨Nat.le_of_ble_eq_true rfl, Nat.le_of_ble_eq_true rfl⟩ (As := [.ref (q 1)]) (fun o h9 => ctX6_hasGaitOf hq (pW_68 hW) (pW_1 hW) h9) rfl hl.1 rfl (Nat.le_of_ble_eq_true rfl) dX7_rank_78 ⟨Nat.zero_le _, Nat.zero_le _⟩ h (fun r_5 S_4 H locs hP hS h => ?_)
        refine z_if_eq (tgt := 96) hx hb dX7_rank_81 (by decide) h (fun h => ?_) (fun h => ?_)
        · refine lv_iload hx hb dX7_rank_96 (lv_at hl 0 rfl) ?_
          refine z_if_eq (tgt := 104) hx hb dX7_rank_98 (by decide) h (fun h => ?_) (fun h => ?_)
          · exact L104 x3 x4 x5 _ _ _ ls hP hS (lv_sub hl [1, 2, 3, 4] rfl) h
          · refine lv_iinc (v := (x4 + 1)) (lv' := [(4, .int (x4 + 1)), (6, .int r_3), (0, .ref (q 0)), (3, .int x3), (5, .int x5)]) hx hb dX7_rank_101 hl (k := 3) rfl rfl (by decide) rfl (fun ls hl => ?_)
            exact L104 x3 (x4 + 1) x5 _ _ _ ls hP hS (lv_sub hl [2, 3, 0, 4] rfl) h
        · refine lv_iload hx hb dX7_rank_84 (lv_at hl 0 rfl) ?_
          refine z_if_eq (tgt := 94) hx hb dX7_rank_86 (by decide) h (fun h => ?_) (fun h => ?_)
          · refine lv_iconst (v := (-1)) hx hb dX7_rank_94 rfl ?_
            exact z_iret hx hb hlocks hP hS hQ hr dX7_rank_95 h
          · refine lv_iload hx hb dX7_rank_89 (lv_at hl 3 rfl) ?_
            refine lv_goto (tgt := 95) hx hb dX7_rank_91 (by decide) ?_
            exact z_iret hx hb hlocks hP hS hQ hr dX7_rank_95 h
  refine lv_iload_n hx hb dX7_rank_0 rfl (lv_at hl 1 rfl) ?_
  refine lv_iload_n hx hb dX7_rank_1 rfl (lv_at hl 2 rfl) ?_
  refine lv_aload_n hx hb dX7_rank_2 rfl (lv_at hl 0 rfl) ?_
  refine z_get hx hb hU uU_X7 hown hK hP (p_0 hW) rfl rfl 0 (by decide) (hU _ uF_X7_12) rfl dX7_rank_3 ?_
  refine z_get hx hb hU uU_X6 hown hK hP (pW_1 hW).1 rfl rfl 0 (by decide) (hU _ uF_X7_124) rfl dX7_rank_6 ?_
  refine z_callS_i hx hb hml hown hU hK hN hP hS 3 (zU_J uL_X7_191 uT_X7_areTold uN_X7 uC_X7_areTold) yd_X7_areTold ⟨rfl, rfl⟩ ⟨Nat.le_of_ble_eq_true rfl, Nat.le_of_ble_eq_true rfl⟩ (As := [.int a1, .int a2, .int (S.1 1 0)]) (fun o h9 => ctX7_areTold hq  h9) rfl hl.1 rfl (Nat.le_of_ble_eq_true rfl) dX7_rank_9 ⟨Nat.zero_le _, Nat.zero_le _⟩ h (fun r_7 S_6 H locs hP hS h => ?_)
  refine z_if_eq (tgt := 26) hx hb dX7_rank_12 (by decide) h (fun h => ?_) (fun h => ?_)
  · refine lv_iconst (v := (-1)) hx hb dX7_rank_26 rfl ?_
    exact z_iret hx hb hlocks hP hS hQ hr dX7_rank_27 h
  · refine lv_aload_n hx hb dX7_rank_15 rfl (lv_at hl 0 rfl) ?_
    refine z_get hx hb hU uU_X7 hown hK hP (p_0 hW) rfl rfl 0 (by decide) (hU _ uF_X7_12) rfl dX7_rank_16 ?_
    refine z_get hx hb hU uU_X6 hown hK hP (pW_1 hW).1 rfl rfl 6 (by decide) (hU _ uF_X7_105) rfl dX7_rank_19 ?_
    refine lv_iload_n hx hb dX7_rank_22 rfl (lv_at hl 1 rfl) ?_
    refine z_icmp_eq (tgt := 28) hx hb dX7_rank_23 (by decide) h (fun h => ?_) (fun h => ?_)
    · refine lv_aload_n hx hb dX7_rank_28 rfl (lv_at hl 0 rfl) ?_
      refine z_get hx hb hU uU_X7 hown hK hP (p_0 hW) rfl rfl 4 (by decide) (hU _ uF_X7_40) rfl dX7_rank_29 ?_
      refine lv_aload_n hx hb dX7_rank_32 rfl (lv_at hl 0 rfl) ?_
      refine z_get hx hb hU uU_X7 hown hK hP (p_0 hW) rfl rfl 0 (by decide) (hU _ uF_X7_12) rfl dX7_rank_33 ?_
      refine z_callV_v hx hb hml hown hU hK hN hP hS 1 (pW_68 hW).1 rfl rfl (zU_V uL_X7_185 uI_X6_copyFrom uS_X6_copyFrom uN_X6 uC_X6_copyFrom) yd_X6_copyFrom ⟨rfl, rfl⟩ ⟨Nat.le_of_ble_eq_true rfl, Nat.le_of_ble_eq_true rfl⟩ (As := [.ref (q 1)]) (fun o h9 => ctX6_copyFrom hq (pW_68 hW) (pW_1 hW) h9) rfl hl.1 rfl (Nat.le_of_ble_eq_true rfl) dX7_rank_36 ⟨Nat.zero_le _, Nat.zero_le _⟩ h (fun S_8 H locs hP hS h => ?_)
      refine lv_aload_n hx hb dX7_rank_39 rfl (lv_at hl 0 rfl) ?_
      refine z_get hx hb hU uU_X7 hown hK hP (p_0 hW) rfl rfl 2 (by decide) (hU _ uF_X7_26) rfl dX7_rank_40 ?_
      refine lv_iload_n hx hb dX7_rank_43 rfl (lv_at hl 1 rfl) ?_
      refine lv_iload_n hx hb dX7_rank_44 rfl (lv_at hl 2 rfl) ?_
      refine z_callV_i hx hb hml hown hU hK hN hP hS 2 (p_66 hW) rfl rfl (zU_V uL_X7_194 uI_X3_start uS_X3_start uN_X3 uC_X3_start) yd_X3_start ⟨rfl, rfl⟩ ⟨Nat.le_of_ble_eq_true rfl, Nat.le_of_ble_eq_true rfl⟩ (As := [.int a1, .int a2]) (fun o h9 => ctX3_start hq hW h9) rfl hl.1 rfl (Nat.le_of_ble_eq_true rfl) dX7_rank_45 ⟨Nat.zero_le _, Nat.zero_le _⟩ h (fun r_10 S_9 H locs hP hS h => ?_)
      refine lv_istore_n (lv' := [(3, .int r_10), (0, .ref (q 0)), (1, .int a1), (2, .int a2)]) hx hb dX7_rank_48 rfl hl (by decide) rfl (fun ls hl => ?_)
      refine lv_iconst (v := 0) hx hb dX7_rank_49 rfl ?_
      refine lv_istore (lv' := [(4, .int 0), (3, .int r_10), (0, .ref (q 0)), (1, .int a1), (2, .int a2)]) hx hb dX7_rank_50 hl (by decide) rfl (fun ls hl => ?_)
      refine lv_iconst (v := 0) hx hb dX7_rank_52 rfl ?_
      refine lv_istore (lv' := [(5, .int 0), (4, .int 0), (3, .int r_10), (0, .ref (q 0)), (1, .int a1), (2, .int a2)]) hx hb dX7_rank_53 hl (by decide) rfl (fun ls hl => ?_)
      exact L55 zF r_10 0 0 _ _ _ ls hP hS (lv_sub hl [3, 2, 1, 0] rfl) h
    · refine lv_iconst (v := (-1)) hx hb dX7_rank_26 rfl ?_
      exact z_iret hx hb hlocks hP hS hQ hr dX7_rank_27 h

def fX3_mark_43 (t0 : Int32) (t1 : Int32) (S : zT) : Option zT :=
  zbv (fX2_put 96 79 t1 t0 S) fun S_1 =>
  some S_1
def fX3_mark (a1 : Int32) (a2 : Int32) (S : zT) : Option zT :=
  zbi (fX2_at 96 79 (zshr a1 5) S) fun r_3 S_2 =>
  (if a2 = 0 then fX3_mark_43 (r_3 &&& ((zshl 1 (a1 &&& 31)) ^^^ (-1))) (zshr a1 5) S_2 else fX3_mark_43 ((r_3 &&& ((zshl 1 (a1 &&& 31)) ^^^ (-1))) ||| (zshl 1 (a1 &&& 31))) (zshr a1 5) S_2)
abbrev rmX3_mark : Room := { frames := 1, cells := 0, slots := 0, locals := 22 }
theorem yd_X3_mark : yX3_mark.cls = RX3 ∧ yX3_mark.cls ≠ "java/lang/invoke/MethodHandle" ∧ yX3_mark.cls ≠ "java/lang/invoke/VarHandle" ∧ (parseMethodDescriptor yX3_mark.desc).map (fun d => d.parameters.length) = some 2 := by decide +kernel
set_option maxRecDepth 100000 in
set_option maxHeartbeats 4000000 in
theorem ctX3_mark {l : Launch} {dC : Nat → ClassId} {dI : Nat → Nat → Nat} {cI : ClassId × ClassId} {cW : List zSh} {q : Nat → Nat} (hq : zI cW q) (hW : zIs cI cW) {a1 : Int32} {a2 : Int32} {S : zT} {o : zT} (h : fX3_mark a1 a2 S = some o) : zCv l dC dI cI cW q yX3_mark (Cond.code yX3_mark cX3_mark 5 none :: zU) rmX3_mark [.ref (q 66), .int a1, .int a2] S o := by
  refine zMet_v (lv := [(0, .ref (q 66)), (1, .int a1), (2, .int a2)]) (by decide) (Nat.le_of_ble_eq_true rfl) rfl ?_
  intro p e s m args below meth c Q hx hb hml hr hU hown hlocks hK hN hP hS ls hl hQ
  replace hown : s.vm.findClass RX3 = some m.cls := hown
  unfold fX3_mark at h
  have L43 : ∀ (t0 : Int32) (t1 : Int32) (S : zT) (H : Heap) (locs : List Loc) (ls : Array Slot), va_P (dC, dI) vwCl (zWd cI cW q S) H → va_S (zA cW q) s.heap H locs → lv_has ls 5 [] → fX3_mark_43 t0 t1 S = some o → W p l e rmX3_mark s m args below meth c H locs 0 0 Q (F0 m 43 ls [.int t0, .int t1, .ref (q 96)]) := by
    intro t0 t1 S H locs ls hP hS hl h
    unfold fX3_mark_43 at h
    refine z_callV_v hx hb hml hown hU hK hN hP hS 2 (pR_96 hW).1 rfl rfl (zU_V uL_X3_44 uI_X2_put uS_X2_put uN_X2 uC_X2_put) yd_X2_put ⟨rfl, rfl⟩ ⟨Nat.le_of_ble_eq_true rfl, Nat.le_of_ble_eq_true rfl⟩ (As := [.int t1, .int t0]) (fun o h9 => ctX2_put hq (pR_96 hW) h9) rfl hl.1 rfl (Nat.le_of_ble_eq_true rfl) dX3_mark_43 ⟨Nat.zero_le _, Nat.zero_le _⟩ h (fun S_1 H locs hP hS h => ?_)
    exact z_vret hx hb hlocks hP hS hQ hr dX3_mark_46 h
  refine lv_iconst (v := 1) hx hb dX3_mark_0 rfl ?_
  refine lv_iload_n hx hb dX3_mark_1 rfl (lv_at hl 1 rfl) ?_
  refine lv_bipush (v := 31) hx hb dX3_mark_2 rfl ?_
  refine lv_iand hx hb dX3_mark_4 ?_
  refine lv_ishl hx hb dX3_mark_5 ?_
  refine lv_istore_n (lv' := [(3, .int (zshl 1 (a1 &&& 31))), (0, .ref (q 66)), (1, .int a1), (2, .int a2)]) hx hb dX3_mark_6 rfl hl (by decide) rfl (fun ls hl => ?_)
  refine lv_aload_n hx hb dX3_mark_7 rfl (lv_at hl 1 rfl) ?_
  refine z_get hx hb hU uU_X3 hown hK hP (p_66 hW) rfl rfl 3 (by decide) (hU _ uF_X3_32) rfl dX3_mark_8 ?_
  refine lv_iload_n hx hb dX3_mark_11 rfl (lv_at hl 2 rfl) ?_
  refine lv_iconst (v := 5) hx hb dX3_mark_12 rfl ?_
  refine lv_ishr hx hb dX3_mark_13 ?_
  refine z_callV_i hx hb hml hown hU hK hN hP hS 1 (pR_96 hW).1 rfl rfl (zU_V uL_X3_69 uI_X2_at uS_X2_at uN_X2 uC_X2_at) yd_X2_at ⟨rfl, rfl⟩ ⟨Nat.le_of_ble_eq_true rfl, Nat.le_of_ble_eq_true rfl⟩ (As := [.int (zshr a1 5)]) (fun o h9 => ctX2_at hq (pR_96 hW) h9) rfl hl.1 rfl (Nat.le_of_ble_eq_true rfl) dX3_mark_14 ⟨Nat.zero_le _, Nat.zero_le _⟩ h (fun r_3 S_2 H locs hP hS h => ?_)
  refine lv_iload_n hx hb dX3_mark_17 rfl (lv_at hl 0 rfl) ?_
  refine lv_iconst (v := (-1)) hx hb dX3_mark_18 rfl ?_
  refine lv_ixor hx hb dX3_mark_19 ?_
  refine lv_iand hx hb dX3_mark_20 ?_
  refine lv_istore (lv' := [(4, .int (r_3 &&& ((zshl 1 (a1 &&& 31)) ^^^ (-1)))), (3, .int (zshl 1 (a1 &&& 31))), (0, .ref (q 66)), (1, .int a1), (2, .int a2)]) hx hb dX3_mark_21 hl (by decide) rfl (fun ls hl => ?_)
  refine lv_aload_n hx hb dX3_mark_23 rfl (lv_at hl 2 rfl) ?_
  refine z_get hx hb hU uU_X3 hown hK hP (p_66 hW) rfl rfl 3 (by decide) (hU _ uF_X3_32) rfl dX3_mark_24 ?_
  refine lv_iload_n hx hb dX3_mark_27 rfl (lv_at hl 3 rfl) ?_
  refine lv_iconst (v := 5) hx hb dX3_mark_28 rfl ?_
  refine lv_ishr hx hb dX3_mark_29 ?_
  refine lv_iload_n hx hb dX3_mark_30 rfl (lv_at hl 4 rfl) ?_
  refine z_if_eq (tgt := 41) hx hb dX3_mark_31 (by decide) h (fun h => ?_) (fun h => ?_)
  · refine lv_iload hx hb dX3_mark_41 (lv_at hl 0 rfl) ?_
    exact L43 (r_3 &&& ((zshl 1 (a1 &&& 31)) ^^^ (-1))) (zshr a1 5) _ _ _ ls hP hS (lv_sub hl [] rfl) h
  · refine lv_iload hx hb dX3_mark_34 (lv_at hl 0 rfl) ?_
    refine lv_iload_n hx hb dX3_mark_36 rfl (lv_at hl 1 rfl) ?_
    refine lv_ior hx hb dX3_mark_37 ?_
    refine lv_goto (tgt := 43) hx hb dX3_mark_38 (by decide) ?_
    exact L43 ((r_3 &&& ((zshl 1 (a1 &&& 31)) ^^^ (-1))) ||| (zshl 1 (a1 &&& 31))) (zshr a1 5) _ _ _ ls hP hS (lv_sub hl [] rfl) h

def fX3_mirrorIndex_79 (k20 : Int32 → Int32 → Int32 → zT → Option (Int32 × zT)) (x1 : Int32) (x3 : Int32) (t0 : Int32) (t1 : Int32) (S : zT) : Option (Int32 × zT) :=
  k20 x1 (t1 + t0) (x3 + 1) S
def fX3_mirrorIndex_20 (rec : Int32 → Int32 → Int32 → zT → Option (Int32 × zT)) (x1 : Int32) (x2 : Int32) (x3 : Int32) (S : zT) : Option (Int32 × zT) :=
  (if (S.1 68 0) ≤ x3 then some (x2, S) else zbi (fX6_twinOf 68 x3 S) fun r_2 S_1 =>
  zbi (fX2_at 94 8 r_2 S_1) fun r_4 S_3 =>
  (if 0 ≤ (r_4 - x1) then (fX3_mirrorIndex_79 rec) x1 x3 (r_4 - x1) (x2 * (S_3.1 68 6)) S_3 else (fX3_mirrorIndex_79 rec) x1 x3 ((r_4 - x1) + (S_3.1 68 6)) (x2 * (S_3.1 68 6)) S_3))
def fX3_mirrorIndex (S : zT) : Option (Int32 × zT) :=
  zbi (fX6_twinOf 68 0 S) fun r_6 S_5 =>
  zbi (fX2_at 94 8 r_6 S_5) fun r_8 S_7 =>
  (zfix (fun _ _ _ _ => none) fX3_mirrorIndex_20 zF) r_8 0 1 S_7
abbrev rmX3_mirrorIndex : Room := { frames := 3, cells := 0, slots := 0, locals := 65 }
theorem yd_X3_mirrorIndex : yX3_mirrorIndex.cls = RX3 ∧ yX3_mirrorIndex.cls ≠ "java/lang/invoke/MethodHandle" ∧ yX3_mirrorIndex.cls ≠ "java/lang/invoke/VarHandle" ∧ (parseMethodDescriptor yX3_mirrorIndex.desc).map (fun d => d.parameters.length) = some 0 := by decide +kernel
set_option maxRecDepth 100000 in
set_option maxHeartbeats 4000000 in
theorem ctX3_mirrorIndex {l : Launch} {dC : Nat → ClassId} {dI : Nat → Nat → Nat} {cI : ClassId × ClassId} {cW : List zSh} {q : Nat → Nat} (hq : zI cW q) (hW : zIs cI cW) {S : zT} {o : Int32 × zT} (h : fX3_mirrorIndex S = some o) : zCi l dC dI cI cW q yX3_mirrorIndex (Cond.code yX3_mirrorIndex cX3_mirrorIndex 5 (some .int) :: zU) rmX3_mirrorIndex [.ref (q 66)] S o := by
  refine zMet_i (lv := [(0, .ref (q 66))]) (by decide) (Nat.le_of_ble_eq_true rfl) rfl ?_
  intro p e s m args below meth c Q hx hb hml hr hU hown hlocks hK hN hP hS ls hl hQ
  replace hown : s.vm.findClass RX3 = some m.cls := hown
  unfold fX3_mirrorIndex at h
  have L20 : ∀ (n20 : Nat) (x1 : Int32) (x2 : Int32) (x3 : Int32) (S : zT) (H : Heap) (locs : List Loc) (ls : Array Slot), va_P (dC, dI) vwCl (zWd cI cW q S) H → va_S (zA cW q) s.heap H locs → lv_has ls 5 [(0, .ref (q 66)), (1, .int x1), (2, .int x2), (3, .int x3)] → (zfix (fun _ _ _ _ => none) fX3_mirrorIndex_20 n20) x1 x2 x3 S = some o → W p l e rmX3_mirrorIndex s m args below meth c H locs 0 0 Q (F0 m 20 ls []) := by
    intro n20
    induction n20 with
    | zero => intro x1 x2 x3 S H locs ls hP hS hl h; exact zno (show (none : Option (Int32 × zT)) = some o from h)
    | succ n20 ih20 =>
      intro x1 x2 x3 S H locs ls hP hS hl h
      replace h : fX3_mirrorIndex_20 (zfix (fun _ _ _ _ => none) fX3_mirrorIndex_20 n20) x1 x2 x3 S = some o := h
      unfold fX3_mirrorIndex_20 at h
      have L79 : ∀ (x1 : Int32) (x3 : Int32) (t0 : Int32) (t1 : Int32) (S : zT) (H : Heap) (locs : List Loc) (ls : Array Slot), va_P (dC, dI) vwCl (zWd cI cW q S) H → va_S (zA cW q) s.heap H locs → lv_has ls 5 [(0, .ref (q 66)), (1, .int x1), (3, .int x3)] → (fX3_mirrorIndex_79 (zfix (fun _ _ _ _ => none) fX3_mirrorIndex_20 n20)) x1 x3 t0 t1 S = some o → W p l e rmX3_mirrorIndex s m args below meth c H locs 0 0 Q (F0 m 79 ls [.int t0, .int t1]) := by
        intro x1 x3 t0 t1 S H locs ls hP hS hl h
        unfold fX3_mirrorIndex_79 at h
        refine lv_iadd hx hb dX3_mirrorIndex_79 ?_
        refine lv_istore_n (lv' := [(2, .int (t1 + t0)), (0, .ref (q 66)), (1, .int x1), (3, .int x3)]) hx hb dX3_mirrorIndex_80 rfl hl (by decide) rfl (fun ls hl => ?_)
        refine lv_iinc (v := (x3 + 1)) (lv' := [(3, .int (x3 + 1)), (2, .int (t1 + t0)), (0, .ref (q 66)), (1, .int x1)]) hx hb dX3_mirrorIndex_81 hl (k := 3) rfl rfl (by decide) rfl (fun ls hl => ?_)
        refine lv_goto (tgt := 20) hx hb dX3_mirrorIndex_84 (by decide) ?_
        exact ih20 x1 (t1 + t0) (x3 + 1) _ _ _ ls hP hS (lv_sub hl [2, 3, 1, 0] rfl) h
      refine lv_iload_n hx hb dX3_mirrorIndex_20 rfl (lv_at hl 3 rfl) ?_
      refine lv_aload_n hx hb dX3_mirrorIndex_21 rfl (lv_at hl 0 rfl) ?_
      refine z_get hx hb hU uU_X3 hown hK hP (p_66 hW) rfl rfl 1 (by decide) (hU _ uF_X3_22) rfl dX3_mirrorIndex_22 ?_
      refine z_get hx hb hU uU_X6 hown hK hP (pW_68 hW).1 rfl rfl 0 (by decide) (hU _ uF_X3_39) rfl dX3_mirrorIndex_25 ?_
      refine z_icmp_ge (tgt := 87) hx hb dX3_mirrorIndex_28 (by decide) h (fun h => ?_) (fun h => ?_)
      · refine lv_iload_n hx hb dX3_mirrorIndex_87 rfl (lv_at hl 2 rfl) ?_
        exact z_iret hx hb hlocks hP hS hQ hr dX3_mirrorIndex_88 h
      · refine lv_aload_n hx hb dX3_mirrorIndex_31 rfl (lv_at hl 0 rfl) ?_
        refine z_get hx hb hU uU_X3 hown hK hP (p_66 hW) rfl rfl 2 (by decide) (hU _ uF_X3_28) rfl dX3_mirrorIndex_32 ?_
        refine lv_aload_n hx hb dX3_mirrorIndex_35 rfl (lv_at hl 0 rfl) ?_
        refine z_get hx hb hU uU_X3 hown hK hP (p_66 hW) rfl rfl 1 (by decide) (hU _ uF_X3_22) rfl dX3_mirrorIndex_36 ?_
        refine lv_iload_n hx hb dX3_mirrorIndex_39 rfl (lv_at hl 3 rfl) ?_
        refine z_callV_i hx hb hml hown hU hK hN hP hS 1 (pW_68 hW).1 rfl rfl (zU_V uL_X3_104 uI_X6_twinOf uS_X6_twinOf uN_X6 uC_X6_twinOf) yd_X6_twinOf ⟨rfl, rfl⟩ ⟨Nat.le_of_ble_eq_true rfl, Nat.le_of_ble_eq_true rfl⟩ (As := [.int x3]) (fun o h9 => ctX6_twinOf hq (pW_68 hW) h9) rfl hl.1 rfl (Nat.le_of_ble_eq_true rfl) dX3_mirrorIndex_40 ⟨Nat.zero_le _, Nat.zero_le _⟩ h (fun r_2 S_1 H locs hP hS h => ?_)
        refine z_callV_i hx hb hml hown hU hK hN hP hS 1 (pR_94 hW).1 rfl rfl (zU_V uL_X3_69 uI_X2_at uS_X2_at uN_X2 uC_X2_at) yd_X2_at ⟨rfl, rfl⟩ ⟨Nat.le_of_ble_eq_true rfl, Nat.le_of_ble_eq_true rfl⟩ (As := [.int r_2]) (fun o h9 => ctX2_at hq (pR_94 hW) h9) rfl hl.1 rfl (Nat.le_of_ble_eq_true rfl) dX3_mirrorIndex_43 ⟨Nat.zero_le _, Nat.zero_le _⟩ h (fun r_4 S_3 H locs hP hS h => ?_)
        refine lv_iload_n hx hb dX3_mirrorIndex_46 rfl (lv_at hl 1 rfl) ?_
        refine lv_isub hx hb dX3_mirrorIndex_47 ?_
        refine lv_istore (lv' := [(4, .int (r_4 - x1)), (0, .ref (q 66)), (1, .int x1), (2, .int x2), (3, .int x3)]) hx hb dX3_mirrorIndex_48 hl (by decide) rfl (fun ls hl => ?_)
        refine lv_iload_n hx hb dX3_mirrorIndex_50 rfl (lv_at hl 3 rfl) ?_
        refine lv_aload_n hx hb dX3_mirrorIndex_51 rfl (lv_at hl 1 rfl) ?_
        refine z_get hx hb hU uU_X3 hown hK hP (p_66 hW) rfl rfl 1 (by decide) (hU _ uF_X3_22) rfl dX3_mirrorIndex_52 ?_
        refine z_get hx hb hU uU_X6 hown hK hP (pW_68 hW).1 rfl rfl 6 (by decide) (hU _ uF_X3_73) rfl dX3_mirrorIndex_55 ?_
        refine lv_imul hx hb dX3_mirrorIndex_58 ?_
        refine lv_iload hx hb dX3_mirrorIndex_59 (lv_at hl 0 rfl) ?_
        refine z_if_ge (tgt := 77) hx hb dX3_mirrorIndex_61 (by decide) h (fun h => ?_) (fun h => ?_)
        · refine lv_iload hx hb dX3_mirrorIndex_77 (lv_at hl 0 rfl) ?_
          exact L79 x1 x3 (r_4 - x1) (x2 * (S_3.1 68 6)) _ _ _ ls hP hS (lv_sub hl [1, 2, 4] rfl) h
        · refine lv_iload hx hb dX3_mirrorIndex_64 (lv_at hl 0 rfl) ?_
          refine lv_aload_n hx hb dX3_mirrorIndex_66 rfl (lv_at hl 1 rfl) ?_
          refine z_get hx hb hU uU_X3 hown hK hP (p_66 hW) rfl rfl 1 (by decide) (hU _ uF_X3_22) rfl dX3_mirrorIndex_67 ?_
          refine z_get hx hb hU uU_X6 hown hK hP (pW_68 hW).1 rfl rfl 6 (by decide) (hU _ uF_X3_73) rfl dX3_mirrorIndex_70 ?_
          refine lv_iadd hx hb dX3_mirrorIndex_73 ?_
          refine lv_goto (tgt := 79) hx hb dX3_mirrorIndex_74 (by decide) ?_
          exact L79 x1 x3 ((r_4 - x1) + (S_3.1 68 6)) (x2 * (S_3.1 68 6)) _ _ _ ls hP hS (lv_sub hl [1, 2, 4] rfl) h
  refine lv_aload_n hx hb dX3_mirrorIndex_0 rfl (lv_at hl 0 rfl) ?_
  refine z_get hx hb hU uU_X3 hown hK hP (p_66 hW) rfl rfl 2 (by decide) (hU _ uF_X3_28) rfl dX3_mirrorIndex_1 ?_
  refine lv_aload_n hx hb dX3_mirrorIndex_4 rfl (lv_at hl 0 rfl) ?_
  refine z_get hx hb hU uU_X3 hown hK hP (p_66 hW) rfl rfl 1 (by decide) (hU _ uF_X3_22) rfl dX3_mirrorIndex_5 ?_
  refine lv_iconst (v := 0) hx hb dX3_mirrorIndex_8 rfl ?_
  refine z_callV_i hx hb hml hown hU hK hN hP hS 1 (pW_68 hW).1 rfl rfl (zU_V uL_X3_104 uI_X6_twinOf uS_X6_twinOf uN_X6 uC_X6_twinOf) yd_X6_twinOf ⟨rfl, rfl⟩ ⟨Nat.le_of_ble_eq_true rfl, Nat.le_of_ble_eq_true rfl⟩ (As := [.int 0]) (fun o h9 => ctX6_twinOf hq (pW_68 hW) h9) rfl hl.1 rfl (Nat.le_of_ble_eq_true rfl) dX3_mirrorIndex_9 ⟨Nat.zero_le _, Nat.zero_le _⟩ h (fun r_6 S_5 H locs hP hS h => ?_)
  refine z_callV_i hx hb hml hown hU hK hN hP hS 1 (pR_94 hW).1 rfl rfl (zU_V uL_X3_69 uI_X2_at uS_X2_at uN_X2 uC_X2_at) yd_X2_at ⟨rfl, rfl⟩ ⟨Nat.le_of_ble_eq_true rfl, Nat.le_of_ble_eq_true rfl⟩ (As := [.int r_6]) (fun o h9 => ctX2_at hq (pR_94 hW) h9) rfl hl.1 rfl (Nat.le_of_ble_eq_true rfl) dX3_mirrorIndex_12 ⟨Nat.zero_le _, Nat.zero_le _⟩ h (fun r_8 S_7 H locs hP hS h => ?_)
  refine lv_istore_n (lv' := [(1, .int r_8), (0, .ref (q 66))]) hx hb dX3_mirrorIndex_15 rfl hl (by decide) rfl (fun ls hl => ?_)
  refine lv_iconst (v := 0) hx hb dX3_mirrorIndex_16 rfl ?_
  refine lv_istore_n (lv' := [(2, .int 0), (1, .int r_8), (0, .ref (q 66))]) hx hb dX3_mirrorIndex_17 rfl hl (by decide) rfl (fun ls hl => ?_)
  refine lv_iconst (v := 1) hx hb dX3_mirrorIndex_18 rfl ?_
  refine lv_istore_n (lv' := [(3, .int 1), (2, .int 0), (1, .int r_8), (0, .ref (q 66))]) hx hb dX3_mirrorIndex_19 rfl hl (by decide) rfl (fun ls hl => ?_)
  exact L20 zF r_8 0 1 _ _ _ ls hP hS (lv_sub hl [3, 2, 1, 0] rfl) h

def fX3_hasEarlierMirror (a1 : Int32) (S : zT) : Option (Int32 × zT) :=
  zbi (fX3_mirrorIndex S) fun r_2 S_1 =>
  (if a1 ≤ r_2 then some (0, S_1) else zbi (fX2_at 96 79 (zshr r_2 5) S_1) fun r_4 S_3 =>
  (if ((zushr r_4 (r_2 &&& 31)) &&& 1) = 1 then some (1, S_3) else some (0, S_3)))
abbrev rmX3_hasEarlierMirror : Room := { frames := 4, cells := 0, slots := 0, locals := 89 }
theorem yd_X3_hasEarlierMirror : yX3_hasEarlierMirror.cls = RX3 ∧ yX3_hasEarlierMirror.cls ≠ "java/lang/invoke/MethodHandle" ∧ yX3_hasEarlierMirror.cls ≠ "java/lang/invoke/VarHandle" ∧ (parseMethodDescriptor yX3_hasEarlierMirror.desc).map (fun d => d.parameters.length) = some 1 := by decide +kernel
set_option maxRecDepth 100000 in
set_option maxHeartbeats 4000000 in
theorem ctX3_hasEarlierMirror {l : Launch} {dC : Nat → ClassId} {dI : Nat → Nat → Nat} {cI : ClassId × ClassId} {cW : List zSh} {q : Nat → Nat} (hq : zI cW q) (hW : zIs cI cW) {a1 : Int32} {S : zT} {o : Int32 × zT} (h : fX3_hasEarlierMirror a1 S = some o) : zCi l dC dI cI cW q yX3_hasEarlierMirror (Cond.code yX3_hasEarlierMirror cX3_hasEarlierMirror 3 (some .boolean) :: zU) rmX3_hasEarlierMirror [.ref (q 66), .int a1] S o := by
  refine zMet_i (lv := [(0, .ref (q 66)), (1, .int a1)]) (by decide) (Nat.le_of_ble_eq_true rfl) rfl ?_
  intro p e s m args below meth c Q hx hb hml hr hU hown hlocks hK hN hP hS ls hl hQ
  replace hown : s.vm.findClass RX3 = some m.cls := hown
  unfold fX3_hasEarlierMirror at h
  refine lv_aload_n hx hb dX3_hasEarlierMirror_0 rfl (lv_at hl 0 rfl) ?_
  refine z_callV_i hx hb hml hown hU hK hN hP hS 0 (p_66 hW) rfl rfl (zU_V uL_X3_100 uI_X3_mirrorIndex uS_X3_mirrorIndex uN_X3 uC_X3_mirrorIndex) yd_X3_mirrorIndex ⟨rfl, rfl⟩ ⟨Nat.le_of_ble_eq_true rfl, Nat.le_of_ble_eq_true rfl⟩ (As := []) (fun o h9 => ctX3_mirrorIndex hq hW h9) rfl hl.1 rfl (Nat.le_of_ble_eq_true rfl) dX3_hasEarlierMirror_1 ⟨Nat.zero_le _, Nat.zero_le _⟩ h (fun r_2 S_1 H locs hP hS h => ?_)
  refine lv_istore_n (lv' := [(2, .int r_2), (0, .ref (q 66)), (1, .int a1)]) hx hb dX3_hasEarlierMirror_4 rfl hl (by decide) rfl (fun ls hl => ?_)
  refine lv_iload_n hx hb dX3_hasEarlierMirror_5 rfl (lv_at hl 0 rfl) ?_
  refine lv_iload_n hx hb dX3_hasEarlierMirror_6 rfl (lv_at hl 2 rfl) ?_
  refine z_icmp_ge (tgt := 35) hx hb dX3_hasEarlierMirror_7 (by decide) h (fun h => ?_) (fun h => ?_)
  · refine lv_iconst (v := 0) hx hb dX3_hasEarlierMirror_35 rfl ?_
    exact z_zretC hx hb hlocks hP hS hQ hr dX3_hasEarlierMirror_36 (Or.inl rfl) h
  · refine lv_aload_n hx hb dX3_hasEarlierMirror_10 rfl (lv_at hl 1 rfl) ?_
    refine z_get hx hb hU uU_X3 hown hK hP (p_66 hW) rfl rfl 3 (by decide) (hU _ uF_X3_32) rfl dX3_hasEarlierMirror_11 ?_
    refine lv_iload_n hx hb dX3_hasEarlierMirror_14 rfl (lv_at hl 0 rfl) ?_
    refine lv_iconst (v := 5) hx hb dX3_hasEarlierMirror_15 rfl ?_
    refine lv_ishr hx hb dX3_hasEarlierMirror_16 ?_
    refine z_callV_i hx hb hml hown hU hK hN hP hS 1 (pR_96 hW).1 rfl rfl (zU_V uL_X3_69 uI_X2_at uS_X2_at uN_X2 uC_X2_at) yd_X2_at ⟨rfl, rfl⟩ ⟨Nat.le_of_ble_eq_true rfl, Nat.le_of_ble_eq_true rfl⟩ (As := [.int (zshr r_2 5)]) (fun o h9 => ctX2_at hq (pR_96 hW) h9) rfl hl.1 rfl (Nat.le_of_ble_eq_true rfl) dX3_hasEarlierMirror_17 ⟨Nat.zero_le _, Nat.zero_le _⟩ h (fun r_4 S_3 H locs hP hS h => ?_)
    refine lv_iload_n hx hb dX3_hasEarlierMirror_20 rfl (lv_at hl 0 rfl) ?_
    refine lv_bipush (v := 31) hx hb dX3_hasEarlierMirror_21 rfl ?_
    refine lv_iand hx hb dX3_hasEarlierMirror_23 ?_
    refine lv_iushr (v := (zushr r_4 (r_2 &&& 31))) hx hb dX3_hasEarlierMirror_24 rfl ?_
    refine lv_iconst (v := 1) hx hb dX3_hasEarlierMirror_25 rfl ?_
    refine lv_iand hx hb dX3_hasEarlierMirror_26 ?_
    refine lv_iconst (v := 1) hx hb dX3_hasEarlierMirror_27 rfl ?_
    refine z_icmp_ne (tgt := 35) hx hb dX3_hasEarlierMirror_28 (by decide) h (fun h => ?_) (fun h => ?_)
    · refine lv_iconst (v := 0) hx hb dX3_hasEarlierMirror_35 rfl ?_
      exact z_zretC hx hb hlocks hP hS hQ hr dX3_hasEarlierMirror_36 (Or.inl rfl) h
    · refine lv_iconst (v := 1) hx hb dX3_hasEarlierMirror_31 rfl ?_
      refine lv_goto (tgt := 36) hx hb dX3_hasEarlierMirror_32 (by decide) ?_
      exact z_zretC hx hb hlocks hP hS hQ hr dX3_hasEarlierMirror_36 (Or.inr rfl) h

def fX3_countUnlike_53 (k13 : Int32 → Int32 → Int32 → zT → Option (Int32 × zT)) (x3 : Int32) (x4 : Int32) (x5 : Int32) (S : zT) : Option (Int32 × zT) :=
  zbv (fX3_goOn S) fun S_1 =>
  k13 x3 x4 (x5 + 1) S_1
def fX3_countUnlike_13 (rec : Int32 → Int32 → Int32 → zT → Option (Int32 × zT)) (x3 : Int32) (x4 : Int32) (x5 : Int32) (S : zT) : Option (Int32 × zT) :=
  (if x3 ≤ x5 then some (x4, S) else zbi (fX5_isSteady S) fun r_3 S_2 =>
  zbv (fX3_mark x5 r_3 S_2) fun S_4 =>
  (if r_3 = 0 then (fX3_countUnlike_53 rec) x3 x4 x5 S_4 else zbi (fX3_hasEarlierMirror x5 S_4) fun r_6 S_5 =>
  (if r_6 = 0 then (fX3_countUnlike_53 rec) x3 (x4 + 1) x5 S_5 else (fX3_countUnlike_53 rec) x3 x4 x5 S_5)))
def fX3_countUnlike (a1 : Int32) (a2 : Int32) (S : zT) : Option (Int32 × zT) :=
  zbi (fX3_start a1 a2 S) fun r_8 S_7 =>
  (zfix (fun _ _ _ _ => none) fX3_countUnlike_13 zF) r_8 0 0 S_7
abbrev rmX3_countUnlike : Room := { frames := 6, cells := 0, slots := 0, locals := 135 }
theorem yd_X3_countUnlike : yX3_countUnlike.cls = RX3 ∧ yX3_countUnlike.cls ≠ "java/lang/invoke/MethodHandle" ∧ yX3_countUnlike.cls ≠ "java/lang/invoke/VarHandle" ∧ (parseMethodDescriptor yX3_countUnlike.desc).map (fun d => d.parameters.length) = some 2 := by decide +kernel
set_option maxRecDepth 100000 in
set_option maxHeartbeats 4000000 in
theorem ctX3_countUnlike {l : Launch} {dC : Nat → ClassId} {dI : Nat → Nat → Nat} {cI : ClassId × ClassId} {cW : List zSh} {q : Nat → Nat} (hq : zI cW q) (hW : zIs cI cW) {a1 : Int32} {a2 : Int32} {S : zT} {o : Int32 × zT} (h : fX3_countUnlike a1 a2 S = some o) : zCi l dC dI cI cW q yX3_countUnlike (Cond.code yX3_countUnlike cX3_countUnlike 7 (some .int) :: zU) rmX3_countUnlike [.ref (q 66), .int a1, .int a2] S o := by
  refine zMet_i (lv := [(0, .ref (q 66)), (1, .int a1), (2, .int a2)]) (by decide) (Nat.le_of_ble_eq_true rfl) rfl ?_
  intro p e s m args below meth c Q hx hb hml hr hU hown hlocks hK hN hP hS ls hl hQ
  replace hown : s.vm.findClass RX3 = some m.cls := hown
  unfold fX3_countUnlike at h
  have L13 : ∀ (n13 : Nat) (x3 : Int32) (x4 : Int32) (x5 : Int32) (S : zT) (H : Heap) (locs : List Loc) (ls : Array Slot), va_P (dC, dI) vwCl (zWd cI cW q S) H → va_S (zA cW q) s.heap H locs → lv_has ls 7 [(0, .ref (q 66)), (3, .int x3), (4, .int x4), (5, .int x5)] → (zfix (fun _ _ _ _ => none) fX3_countUnlike_13 n13) x3 x4 x5 S = some o → W p l e rmX3_countUnlike s m args below meth c H locs 0 0 Q (F0 m 13 ls []) := by
    intro n13
    induction n13 with
    | zero => intro x3 x4 x5 S H locs ls hP hS hl h; exact zno (show (none : Option (Int32 × zT)) = some o from h)
    | succ n13 ih13 =>
      intro x3 x4 x5 S H locs ls hP hS hl h
      replace h : fX3_countUnlike_13 (zfix (fun _ _ _ _ => none) fX3_countUnlike_13 n13) x3 x4 x5 S = some o := h
      unfold fX3_countUnlike_13 at h
      have L53 : ∀ (x3 : Int32) (x4 : Int32) (x5 : Int32) (S : zT) (H : Heap) (locs : List Loc) (ls : Array Slot), va_P (dC, dI) vwCl (zWd cI cW q S) H → va_S (zA cW q) s.heap H locs → lv_has ls 7 [(0, .ref (q 66)), (3, .int x3), (4, .int x4), (5, .int x5)] → (fX3_countUnlike_53 (zfix (fun _ _ _ _ => none) fX3_countUnlike_13 n13)) x3 x4 x5 S = some o → W p l e rmX3_countUnlike s m args below meth c H locs 0 0 Q (F0 m 53 ls []) := by
        intro x3 x4 x5 S H locs ls hP hS hl h
        unfold fX3_countUnlike_53 at h
        refine lv_aload_n hx hb dX3_countUnlike_53 rfl (lv_at hl 0 rfl) ?_
        refine z_callV_v hx hb hml hown hU hK hN hP hS 0 (p_66 hW) rfl rfl (zU_V uL_X3_97 uI_X3_goOn uS_X3_goOn uN_X3 uC_X3_goOn) yd_X3_goOn ⟨rfl, rfl⟩ ⟨Nat.le_of_ble_eq_true rfl, Nat.le_of_ble_eq_true rfl⟩ (As := []) (fun o h9 => ctX3_goOn hq hW h9) rfl hl.1 rfl (Nat.le_of_ble_eq_true rfl) dX3_countUnlike_54 ⟨Nat.zero_le _, Nat.zero_le _⟩ h (fun S_1 H locs hP hS h => ?_)
        refine lv_iinc (v := (x5 + 1)) (lv' := [(5, .int (x5 + 1)), (0, .ref (q 66)), (3, .int x3), (4, .int x4)]) hx hb dX3_countUnlike_57 hl (k := 3) rfl rfl (by decide) rfl (fun ls hl => ?_)
        refine lv_goto (tgt := 13) hx hb dX3_countUnlike_60 (by decide) ?_
        exact ih13 x3 x4 (x5 + 1) _ _ _ ls hP hS (lv_sub hl [1, 2, 3, 0] rfl) h
      refine lv_iload hx hb dX3_countUnlike_13 (lv_at hl 3 rfl) ?_
      refine lv_iload_n hx hb dX3_countUnlike_15 rfl (lv_at hl 1 rfl) ?_
      refine z_icmp_ge (tgt := 63) hx hb dX3_countUnlike_16 (by decide) h (fun h => ?_) (fun h => ?_)
      · refine lv_iload hx hb dX3_countUnlike_63 (lv_at hl 2 rfl) ?_
        exact z_iret hx hb hlocks hP hS hQ hr dX3_countUnlike_65 h
      · refine lv_aload_n hx hb dX3_countUnlike_19 rfl (lv_at hl 0 rfl) ?_
        refine z_get hx hb hU uU_X3 hown hK hP (p_66 hW) rfl rfl 0 (by decide) (hU _ uF_X3_12) rfl dX3_countUnlike_20 ?_
        refine z_callV_i hx hb hml hown hU hK hN hP hS 0 (p_67 hW) rfl rfl (zU_V uL_X3_85 uI_X5_isSteady uS_X5_isSteady uN_X5 uC_X5_isSteady) yd_X5_isSteady ⟨rfl, rfl⟩ ⟨Nat.le_of_ble_eq_true rfl, Nat.le_of_ble_eq_true rfl⟩ (As := []) (fun o h9 => ctX5_isSteady hq hW h9) rfl hl.1 rfl (Nat.le_of_ble_eq_true rfl) dX3_countUnlike_23 ⟨Nat.zero_le _, Nat.zero_le _⟩ h (fun r_3 S_2 H locs hP hS h => ?_)
        refine lv_istore (lv' := [(6, .int r_3), (0, .ref (q 66)), (3, .int x3), (4, .int x4), (5, .int x5)]) hx hb dX3_countUnlike_26 hl (by decide) rfl (fun ls hl => ?_)
        refine lv_aload_n hx hb dX3_countUnlike_28 rfl (lv_at hl 1 rfl) ?_
        refine lv_iload hx hb dX3_countUnlike_29 (lv_at hl 4 rfl) ?_
        refine lv_iload hx hb dX3_countUnlike_31 (lv_at hl 0 rfl) ?_
        refine z_callV_v hx hb hml hown hU hK hN hP hS 2 (p_66 hW) rfl rfl (zU_V uL_X3_89 uI_X3_mark uS_X3_mark uN_X3 uC_X3_mark) yd_X3_mark ⟨rfl, rfl⟩ ⟨Nat.le_of_ble_eq_true rfl, Nat.le_of_ble_eq_true rfl⟩ (As := [.int x5, .int r_3]) (fun o h9 => ctX3_mark hq hW h9) rfl hl.1 rfl (Nat.le_of_ble_eq_true rfl) dX3_countUnlike_33 ⟨Nat.zero_le _, Nat.zero_le _⟩ h (fun S_4 H locs hP hS h => ?_)
        refine lv_iload hx hb dX3_countUnlike_36 (lv_at hl 0 rfl) ?_
        refine z_if_eq (tgt := 53) hx hb dX3_countUnlike_38 (by decide) h (fun h => ?_) (fun h => ?_)
        · exact L53 x3 x4 x5 _ _ _ ls hP hS (lv_sub hl [1, 2, 3, 4] rfl) h
        · refine lv_aload_n hx hb dX3_countUnlike_41 rfl (lv_at hl 1 rfl) ?_
          refine lv_iload hx hb dX3_countUnlike_42 (lv_at hl 4 rfl) ?_
          refine z_callV_i hx hb hml hown hU hK hN hP hS 1 (p_66 hW) rfl rfl (zU_V uL_X3_93 uI_X3_hasEarlierMirror uS_X3_hasEarlierMirror uN_X3 uC_X3_hasEarlierMirror) yd_X3_hasEarlierMirror ⟨rfl, rfl⟩ ⟨Nat.le_of_ble_eq_true rfl, Nat.le_of_ble_eq_true rfl⟩ (As := [.int x5]) (fun o h9 => ctX3_hasEarlierMirror hq hW h9) rfl hl.1 rfl (Nat.le_of_ble_eq_true rfl) dX3_countUnlike_44 ⟨Nat.zero_le _, Nat.zero_le _⟩ h (fun r_6 S_5 H locs hP hS h => ?_)
          refine z_if_ne (tgt := 53) hx hb dX3_countUnlike_47 (by decide) h (fun h => ?_) (fun h => ?_)
          · exact L53 x3 x4 x5 _ _ _ ls hP hS (lv_sub hl [1, 2, 3, 4] rfl) h
          · refine lv_iinc (v := (x4 + 1)) (lv' := [(4, .int (x4 + 1)), (6, .int r_3), (0, .ref (q 66)), (3, .int x3), (5, .int x5)]) hx hb dX3_countUnlike_50 hl (k := 3) rfl rfl (by decide) rfl (fun ls hl => ?_)
            exact L53 x3 (x4 + 1) x5 _ _ _ ls hP hS (lv_sub hl [2, 3, 0, 4] rfl) h
  refine lv_aload_n hx hb dX3_countUnlike_0 rfl (lv_at hl 0 rfl) ?_
  refine lv_iload_n hx hb dX3_countUnlike_1 rfl (lv_at hl 1 rfl) ?_
  refine lv_iload_n hx hb dX3_countUnlike_2 rfl (lv_at hl 2 rfl) ?_
  refine z_callV_i hx hb hml hown hU hK hN hP hS 2 (p_66 hW) rfl rfl (zU_V uL_X3_82 uI_X3_start uS_X3_start uN_X3 uC_X3_start) yd_X3_start ⟨rfl, rfl⟩ ⟨Nat.le_of_ble_eq_true rfl, Nat.le_of_ble_eq_true rfl⟩ (As := [.int a1, .int a2]) (fun o h9 => ctX3_start hq hW h9) rfl hl.1 rfl (Nat.le_of_ble_eq_true rfl) dX3_countUnlike_3 ⟨Nat.zero_le _, Nat.zero_le _⟩ h (fun r_8 S_7 H locs hP hS h => ?_)
  refine lv_istore_n (lv' := [(3, .int r_8), (0, .ref (q 66)), (1, .int a1), (2, .int a2)]) hx hb dX3_countUnlike_6 rfl hl (by decide) rfl (fun ls hl => ?_)
  refine lv_iconst (v := 0) hx hb dX3_countUnlike_7 rfl ?_
  refine lv_istore (lv' := [(4, .int 0), (3, .int r_8), (0, .ref (q 66)), (1, .int a1), (2, .int a2)]) hx hb dX3_countUnlike_8 hl (by decide) rfl (fun ls hl => ?_)
  refine lv_iconst (v := 0) hx hb dX3_countUnlike_10 rfl ?_
  refine lv_istore (lv' := [(5, .int 0), (4, .int 0), (3, .int r_8), (0, .ref (q 66)), (1, .int a1), (2, .int a2)]) hx hb dX3_countUnlike_11 hl (by decide) rfl (fun ls hl => ?_)
  exact L13 zF r_8 0 0 _ _ _ ls hP hS (lv_sub hl [3, 2, 1, 0] rfl) h

def fX7_unlike (a1 : Int32) (a2 : Int32) (S : zT) : Option (Int32 × zT) :=
  zbi (fX7_areTold a1 a2 (S.1 1 0) S) fun r_2 S_1 =>
  (if r_2 = 0 then some ((-1), S_1) else zbv (fX6_copyFrom 68 1 S_1) fun S_3 =>
  zbi (fX6_isMirrored 1 S_3) fun r_5 S_4 =>
  (if r_5 = 0 then zbi (fX7_countRows a1 a2 S_4) fun r_7 S_6 =>
  some (r_7, S_6) else zbi (fX3_countUnlike a1 a2 S_4) fun r_9 S_8 =>
  some (r_9, S_8)))
abbrev rmX7_unlike : Room := { frames := 7, cells := 0, slots := 0, locals := 161 }
theorem yd_X7_unlike : yX7_unlike.cls = RX7 ∧ yX7_unlike.cls ≠ "java/lang/invoke/MethodHandle" ∧ yX7_unlike.cls ≠ "java/lang/invoke/VarHandle" ∧ (parseMethodDescriptor yX7_unlike.desc).map (fun d => d.parameters.length) = some 2 := by decide +kernel
set_option maxRecDepth 100000 in
set_option maxHeartbeats 4000000 in
theorem ctX7_unlike {l : Launch} {dC : Nat → ClassId} {dI : Nat → Nat → Nat} {cI : ClassId × ClassId} {cW : List zSh} {q : Nat → Nat} (hq : zI cW q) (hW : zIs cI cW) {a1 : Int32} {a2 : Int32} {S : zT} {o : Int32 × zT} (h : fX7_unlike a1 a2 S = some o) : zCi l dC dI cI cW q yX7_unlike (Cond.code yX7_unlike cX7_unlike 3 (some .int) :: zU) rmX7_unlike [.ref (q 0), .int a1, .int a2] S o := by
  refine zMet_i (lv := [(0, .ref (q 0)), (1, .int a1), (2, .int a2)]) (by decide) (Nat.le_of_ble_eq_true rfl) rfl ?_
  intro p e s m args below meth c Q hx hb hml hr hU hown hlocks hK hN hP hS ls hl hQ
  replace hown : s.vm.findClass RX7 = some m.cls := hown
  unfold fX7_unlike at h
  refine lv_iload_n hx hb dX7_unlike_0 rfl (lv_at hl 1 rfl) ?_
  refine lv_iload_n hx hb dX7_unlike_1 rfl (lv_at hl 2 rfl) ?_
  refine lv_aload_n hx hb dX7_unlike_2 rfl (lv_at hl 0 rfl) ?_
  refine z_get hx hb hU uU_X7 hown hK hP (p_0 hW) rfl rfl 0 (by decide) (hU _ uF_X7_12) rfl dX7_unlike_3 ?_
  refine z_get hx hb hU uU_X6 hown hK hP (pW_1 hW).1 rfl rfl 0 (by decide) (hU _ uF_X7_124) rfl dX7_unlike_6 ?_
  refine z_callS_i hx hb hml hown hU hK hN hP hS 3 (zU_J uL_X7_191 uT_X7_areTold uN_X7 uC_X7_areTold) yd_X7_areTold ⟨rfl, rfl⟩ ⟨Nat.le_of_ble_eq_true rfl, Nat.le_of_ble_eq_true rfl⟩ (As := [.int a1, .int a2, .int (S.1 1 0)]) (fun o h9 => ctX7_areTold hq  h9) rfl hl.1 rfl (Nat.le_of_ble_eq_true rfl) dX7_unlike_9 ⟨Nat.zero_le _, Nat.zero_le _⟩ h (fun r_2 S_1 H locs hP hS h => ?_)
  refine z_if_ne (tgt := 17) hx hb dX7_unlike_12 (by decide) h (fun h => ?_) (fun h => ?_)
  · refine lv_aload_n hx hb dX7_unlike_17 rfl (lv_at hl 0 rfl) ?_
    refine z_get hx hb hU uU_X7 hown hK hP (p_0 hW) rfl rfl 4 (by decide) (hU _ uF_X7_40) rfl dX7_unlike_18 ?_
    refine lv_aload_n hx hb dX7_unlike_21 rfl (lv_at hl 0 rfl) ?_
    refine z_get hx hb hU uU_X7 hown hK hP (p_0 hW) rfl rfl 0 (by decide) (hU _ uF_X7_12) rfl dX7_unlike_22 ?_
    refine z_callV_v hx hb hml hown hU hK hN hP hS 1 (pW_68 hW).1 rfl rfl (zU_V uL_X7_185 uI_X6_copyFrom uS_X6_copyFrom uN_X6 uC_X6_copyFrom) yd_X6_copyFrom ⟨rfl, rfl⟩ ⟨Nat.le_of_ble_eq_true rfl, Nat.le_of_ble_eq_true rfl⟩ (As := [.ref (q 1)]) (fun o h9 => ctX6_copyFrom hq (pW_68 hW) (pW_1 hW) h9) rfl hl.1 rfl (Nat.le_of_ble_eq_true rfl) dX7_unlike_25 ⟨Nat.zero_le _, Nat.zero_le _⟩ h (fun S_3 H locs hP hS h => ?_)
    refine lv_aload_n hx hb dX7_unlike_28 rfl (lv_at hl 0 rfl) ?_
    refine z_get hx hb hU uU_X7 hown hK hP (p_0 hW) rfl rfl 0 (by decide) (hU _ uF_X7_12) rfl dX7_unlike_29 ?_
    refine z_callV_i hx hb hml hown hU hK hN hP hS 0 (pW_1 hW).1 rfl rfl (zU_V uL_X7_137 uI_X6_isMirrored uS_X6_isMirrored uN_X6 uC_X6_isMirrored) yd_X6_isMirrored ⟨rfl, rfl⟩ ⟨Nat.le_of_ble_eq_true rfl, Nat.le_of_ble_eq_true rfl⟩ (As := []) (fun o h9 => ctX6_isMirrored hq (pW_1 hW) h9) rfl hl.1 rfl (Nat.le_of_ble_eq_true rfl) dX7_unlike_32 ⟨Nat.zero_le _, Nat.zero_le _⟩ h (fun r_5 S_4 H locs hP hS h => ?_)
    refine z_if_eq (tgt := 50) hx hb dX7_unlike_35 (by decide) h (fun h => ?_) (fun h => ?_)
    · refine lv_aload_n hx hb dX7_unlike_50 rfl (lv_at hl 0 rfl) ?_
      refine lv_iload_n hx hb dX7_unlike_51 rfl (lv_at hl 1 rfl) ?_
      refine lv_iload_n hx hb dX7_unlike_52 rfl (lv_at hl 2 rfl) ?_
      refine z_callV_i hx hb hml hown hU hK hN hP hS 2 (p_0 hW) rfl rfl (zU_V uL_X7_188 uI_X7_countRows uS_X7_countRows uN_X7 uC_X7_countRows) yd_X7_countRows ⟨rfl, rfl⟩ ⟨Nat.le_of_ble_eq_true rfl, Nat.le_of_ble_eq_true rfl⟩ (As := [.int a1, .int a2]) (fun o h9 => ctX7_countRows hq hW h9) rfl hl.1 rfl (Nat.le_of_ble_eq_true rfl) dX7_unlike_53 ⟨Nat.zero_le _, Nat.zero_le _⟩ h (fun r_7 S_6 H locs hP hS h => ?_)
      exact z_iret hx hb hlocks hP hS hQ hr dX7_unlike_56 h
    · refine lv_aload_n hx hb dX7_unlike_38 rfl (lv_at hl 0 rfl) ?_
      refine z_get hx hb hU uU_X7 hown hK hP (p_0 hW) rfl rfl 2 (by decide) (hU _ uF_X7_26) rfl dX7_unlike_39 ?_
      refine lv_iload_n hx hb dX7_unlike_42 rfl (lv_at hl 1 rfl) ?_
      refine lv_iload_n hx hb dX7_unlike_43 rfl (lv_at hl 2 rfl) ?_
      refine z_callV_i hx hb hml hown hU hK hN hP hS 2 (p_66 hW) rfl rfl (zU_V uL_X7_207 uI_X3_countUnlike uS_X3_countUnlike uN_X3 uC_X3_countUnlike) yd_X3_countUnlike ⟨rfl, rfl⟩ ⟨Nat.le_of_ble_eq_true rfl, Nat.le_of_ble_eq_true rfl⟩ (As := [.int a1, .int a2]) (fun o h9 => ctX3_countUnlike hq hW h9) rfl hl.1 rfl (Nat.le_of_ble_eq_true rfl) dX7_unlike_44 ⟨Nat.zero_le _, Nat.zero_le _⟩ h (fun r_9 S_8 H locs hP hS h => ?_)
      refine lv_goto (tgt := 56) hx hb dX7_unlike_47 (by decide) ?_
      exact z_iret hx hb hlocks hP hS hQ hr dX7_unlike_56 h
  · refine lv_iconst (v := (-1)) hx hb dX7_unlike_15 rfl ?_
    exact z_iret hx hb hlocks hP hS hQ hr dX7_unlike_16 h

def fX7_best_130 (k50 : Int32 → Int32 → Int32 → Int32 → Int32 → Int32 → Int32 → zT → Option (Int32 × zT)) (x1 : Int32) (x2 : Int32) (x3 : Int32) (x4 : Int32) (x5 : Int32) (x6 : Int32) (x7 : Int32) (S : zT) : Option (Int32 × zT) :=
  zbv (fX3_goOn S) fun S_1 =>
  k50 x1 x2 x3 x4 x5 x6 (x7 + 1) S_1
def fX7_best_127 (k130 : Int32 → Int32 → Int32 → Int32 → Int32 → Int32 → Int32 → zT → Option (Int32 × zT)) (x1 : Int32) (x2 : Int32) (x3 : Int32) (x4 : Int32) (x5 : Int32) (x6 : Int32) (x7 : Int32) (S : zT) : Option (Int32 × zT) :=
  k130 x1 x2 x3 (x4 + 1) x5 x6 x7 S
def fX7_best_100 (k127 : Int32 → Int32 → Int32 → Int32 → Int32 → Int32 → Int32 → zT → Option (Int32 × zT)) (x1 : Int32) (x2 : Int32) (x3 : Int32) (x4 : Int32) (x7 : Int32) (S : zT) : Option (Int32 × zT) :=
  zbv (fX1_copyFrom 98 93 S) fun S_2 =>
  zbi (fX3_packedOffsets S_2) fun r_4 S_3 =>
  k127 x1 x2 x3 x4 x4 r_4 x7 S_3
def fX7_best_50 (rec : Int32 → Int32 → Int32 → Int32 → Int32 → Int32 → Int32 → zT → Option (Int32 × zT)) (x1 : Int32) (x2 : Int32) (x3 : Int32) (x4 : Int32) (x5 : Int32) (x6 : Int32) (x7 : Int32) (S : zT) : Option (Int32 × zT) :=
  (if x3 ≤ x7 then (if x5 = (-1) then some (x5, S) else zbv (fX0_keep 1 S) fun S_5 =>
  zbv (fX6_layRow 1 x1 x2 x6 S_5) fun S_6 =>
  some (x5, S_6)) else zbi (fX5_isSteady S) fun r_8 S_7 =>
  (if r_8 = 0 then (fX7_best_130 rec) x1 x2 x3 x4 x5 x6 x7 S_7 else zbi (fX5_findLeast S_7) fun r_10 S_9 =>
  (if r_10 = (-1) then (fX7_best_127 (fX7_best_130 rec)) x1 x2 x3 x4 x5 x6 x7 S_9 else (if x5 = (-1) then (fX7_best_100 (fX7_best_127 (fX7_best_130 rec))) x1 x2 x3 x4 x7 S_9 else zbi (fX1_isLessThan 98 93 S_9) fun r_12 S_11 =>
  (if r_12 = 0 then (fX7_best_127 (fX7_best_130 rec)) x1 x2 x3 x4 x5 x6 x7 S_11 else (fX7_best_100 (fX7_best_127 (fX7_best_130 rec))) x1 x2 x3 x4 x7 S_11)))))
def fX7_best (a1 : Int32) (a2 : Int32) (S : zT) : Option (Int32 × zT) :=
  zbi (fX7_areTold a1 a2 (S.1 1 0) S) fun r_14 S_13 =>
  (if r_14 = 0 then some ((-1), S_13) else zbv (fX6_copyFrom 68 1 S_13) fun S_15 =>
  zbi (fX3_start a1 a2 S_15) fun r_17 S_16 =>
  (zfix (fun _ _ _ _ _ _ _ _ => none) fX7_best_50 zF) a1 a2 r_17 0 (-1) 0 0 S_16)
abbrev rmX7_best : Room := { frames := 6, cells := 0, slots := 0, locals := 135 }
theorem yd_X7_best : yX7_best.cls = RX7 ∧ yX7_best.cls ≠ "java/lang/invoke/MethodHandle" ∧ yX7_best.cls ≠ "java/lang/invoke/VarHandle" ∧ (parseMethodDescriptor yX7_best.desc).map (fun d => d.parameters.length) = some 2 := by decide +kernel
set_option maxRecDepth 100000 in
set_option maxHeartbeats 4000000 in
theorem ctX7_best {l : Launch} {dC : Nat → ClassId} {dI : Nat → Nat → Nat} {cI : ClassId × ClassId} {cW : List zSh} {q : Nat → Nat} (hq : zI cW q) (hW : zIs cI cW) {a1 : Int32} {a2 : Int32} {S : zT} {o : Int32 × zT} (h : fX7_best a1 a2 S = some o) : zCi l dC dI cI cW q yX7_best (Cond.code yX7_best cX7_best 8 (some .int) :: zU) rmX7_best [.ref (q 0), .int a1, .int a2] S o := by
  refine zMet_i (lv := [(0, .ref (q 0)), (1, .int a1), (2, .int a2)]) (by decide) (Nat.le_of_ble_eq_true rfl) rfl ?_
  intro p e s m args below meth c Q hx hb hml hr hU hown hlocks hK hN hP hS ls hl hQ
  replace hown : s.vm.findClass RX7 = some m.cls := hown
  unfold fX7_best at h
  have L50 : ∀ (n50 : Nat) (x1 : Int32) (x2 : Int32) (x3 : Int32) (x4 : Int32) (x5 : Int32) (x6 : Int32) (x7 : Int32) (S : zT) (H : Heap) (locs : List Loc) (ls : Array Slot), va_P (dC, dI) vwCl (zWd cI cW q S) H → va_S (zA cW q) s.heap H locs → lv_has ls 8 [(0, .ref (q 0)), (1, .int x1), (2, .int x2), (3, .int x3), (4, .int x4), (5, .int x5), (6, .int x6), (7, .int x7)] → (zfix (fun _ _ _ _ _ _ _ _ => none) fX7_best_50 n50) x1 x2 x3 x4 x5 x6 x7 S = some o → W p l e rmX7_best s m args below meth c H locs 0 0 Q (F0 m 50 ls []) := by
    intro n50
    induction n50 with
    | zero => intro x1 x2 x3 x4 x5 x6 x7 S H locs ls hP hS hl h; exact zno (show (none : Option (Int32 × zT)) = some o from h)
    | succ n50 ih50 =>
      intro x1 x2 x3 x4 x5 x6 x7 S H locs ls hP hS hl h
      replace h : fX7_best_50 (zfix (fun _ _ _ _ _ _ _ _ => none) fX7_best_50 n50) x1 x2 x3 x4 x5 x6 x7 S = some o := h
      unfold fX7_best_50 at h
      have L130 : ∀ (x1 : Int32) (x2 : Int32) (x3 : Int32) (x4 : Int32) (x5 : Int32) (x6 : Int32) (x7 : Int32) (S : zT) (H : Heap) (locs : List Loc) (ls : Array Slot), va_P (dC, dI) vwCl (zWd cI cW q S) H → va_S (zA cW q) s.heap H locs → lv_has ls 8 [(0, .ref (q 0)), (1, .int x1), (2, .int x2), (3, .int x3), (4, .int x4), (5, .int x5), (6, .int x6), (7, .int x7)] → (fX7_best_130 (zfix (fun _ _ _ _ _ _ _ _ => none) fX7_best_50 n50)) x1 x2 x3 x4 x5 x6 x7 S = some o → W p l e rmX7_best s m args below meth c H locs 0 0 Q (F0 m 130 ls []) := by
        intro x1 x2 x3 x4 x5 x6 x7 S H locs ls hP hS hl h
        unfold fX7_best_130 at h
        refine lv_aload_n hx hb dX7_best_130 rfl (lv_at hl 0 rfl) ?_
        refine z_get hx hb hU uU_X7 hown hK hP (p_0 hW) rfl rfl 2 (by decide) (hU _ uF_X7_26) rfl dX7_best_131 ?_
        refine z_callV_v hx hb hml hown hU hK hN hP hS 0 (p_66 hW) rfl rfl (zU_V uL_X7_200 uI_X3_goOn uS_X3_goOn uN_X3 uC_X3_goOn) yd_X3_goOn ⟨rfl, rfl⟩ ⟨Nat.le_of_ble_eq_true rfl, Nat.le_of_ble_eq_true rfl⟩ (As := []) (fun o h9 => ctX3_goOn hq hW h9) rfl hl.1 rfl (Nat.le_of_ble_eq_true rfl) dX7_best_134 ⟨Nat.zero_le _, Nat.zero_le _⟩ h (fun S_1 H locs hP hS h => ?_)
        refine lv_iinc (v := (x7 + 1)) (lv' := [(7, .int (x7 + 1)), (0, .ref (q 0)), (1, .int x1), (2, .int x2), (3, .int x3), (4, .int x4), (5, .int x5), (6, .int x6)]) hx hb dX7_best_137 hl (k := 7) rfl rfl (by decide) rfl (fun ls hl => ?_)
        refine lv_goto (tgt := 50) hx hb dX7_best_140 (by decide) ?_
        exact ih50 x1 x2 x3 x4 x5 x6 (x7 + 1) _ _ _ ls hP hS (lv_sub hl [1, 2, 3, 4, 5, 6, 7, 0] rfl) h
      have L127 : ∀ (x1 : Int32) (x2 : Int32) (x3 : Int32) (x4 : Int32) (x5 : Int32) (x6 : Int32) (x7 : Int32) (S : zT) (H : Heap) (locs : List Loc) (ls : Array Slot), va_P (dC, dI) vwCl (zWd cI cW q S) H → va_S (zA cW q) s.heap H locs → lv_has ls 8 [(0, .ref (q 0)), (1, .int x1), (2, .int x2), (3, .int x3), (4, .int x4), (5, .int x5), (6, .int x6), (7, .int x7)] → (fX7_best_127 (fX7_best_130 (zfix (fun _ _ _ _ _ _ _ _ => none) fX7_best_50 n50))) x1 x2 x3 x4 x5 x6 x7 S = some o → W p l e rmX7_best s m args below meth c H locs 0 0 Q (F0 m 127 ls []) := by
        intro x1 x2 x3 x4 x5 x6 x7 S H locs ls hP hS hl h
        unfold fX7_best_127 at h
        refine lv_iinc (v := (x4 + 1)) (lv' := [(4, .int (x4 + 1)), (0, .ref (q 0)), (1, .int x1), (2, .int x2), (3, .int x3), (5, .int x5), (6, .int x6), (7, .int x7)]) hx hb dX7_best_127 hl (k := 4) rfl rfl (by decide) rfl (fun ls hl => ?_)
        exact L130 x1 x2 x3 (x4 + 1) x5 x6 x7 _ _ _ ls hP hS (lv_sub hl [1, 2, 3, 4, 0, 5, 6, 7] rfl) h
      have L100 : ∀ (x1 : Int32) (x2 : Int32) (x3 : Int32) (x4 : Int32) (x7 : Int32) (S : zT) (H : Heap) (locs : List Loc) (ls : Array Slot), va_P (dC, dI) vwCl (zWd cI cW q S) H → va_S (zA cW q) s.heap H locs → lv_has ls 8 [(0, .ref (q 0)), (1, .int x1), (2, .int x2), (3, .int x3), (4, .int x4), (7, .int x7)] → (fX7_best_100 (fX7_best_127 (fX7_best_130 (zfix (fun _ _ _ _ _ _ _ _ => none) fX7_best_50 n50)))) x1 x2 x3 x4 x7 S = some o → W p l e rmX7_best s m args below meth c H locs 0 0 Q (F0 m 100 ls []) := by
        intro x1 x2 x3 x4 x7 S H locs ls hP hS hl h
        unfold fX7_best_100 at h
        refine lv_aload_n hx hb dX7_best_100 rfl (lv_at hl 0 rfl) ?_
        refine z_get hx hb hU uU_X7 hown hK hP (p_0 hW) rfl rfl 5 (by decide) (hU _ uF_X7_46) rfl dX7_best_101 ?_
        refine lv_aload_n hx hb dX7_best_104 rfl (lv_at hl 0 rfl) ?_
        refine z_get hx hb hU uU_X7 hown hK hP (p_0 hW) rfl rfl 3 (by decide) (hU _ uF_X7_34) rfl dX7_best_105 ?_
        refine z_get hx hb hU uU_X5 hown hK hP (p_67 hW) rfl rfl 6 (by decide) (hU _ uF_X7_182) rfl dX7_best_108 ?_
        refine z_callV_v hx hb hml hown hU hK hN hP hS 1 (pT_98 hW) rfl rfl (zU_V uL_X7_214 uI_X1_copyFrom uS_X1_copyFrom uN_X1 uC_X1_copyFrom) yd_X1_copyFrom ⟨rfl, rfl⟩ ⟨Nat.le_of_ble_eq_true rfl, Nat.le_of_ble_eq_true rfl⟩ (As := [.ref (q 93)]) (fun o h9 => ctX1_copyFrom hq (pT_98 hW) (pT_93 hW) h9) rfl hl.1 rfl (Nat.le_of_ble_eq_true rfl) dX7_best_111 ⟨Nat.zero_le _, Nat.zero_le _⟩ h (fun S_2 H locs hP hS h => ?_)
        refine lv_iload hx hb dX7_best_114 (lv_at hl 4 rfl) ?_
        refine lv_istore (lv' := [(5, .int x4), (0, .ref (q 0)), (1, .int x1), (2, .int x2), (3, .int x3), (4, .int x4), (7, .int x7)]) hx hb dX7_best_116 hl (by decide) rfl (fun ls hl => ?_)
        refine lv_aload_n hx hb dX7_best_118 rfl (lv_at hl 1 rfl) ?_
        refine z_get hx hb hU uU_X7 hown hK hP (p_0 hW) rfl rfl 2 (by decide) (hU _ uF_X7_26) rfl dX7_best_119 ?_
        refine z_callV_i hx hb hml hown hU hK hN hP hS 0 (p_66 hW) rfl rfl (zU_V uL_X7_197 uI_X3_packedOffsets uS_X3_packedOffsets uN_X3 uC_X3_packedOffsets) yd_X3_packedOffsets ⟨rfl, rfl⟩ ⟨Nat.le_of_ble_eq_true rfl, Nat.le_of_ble_eq_true rfl⟩ (As := []) (fun o h9 => ctX3_packedOffsets hq hW h9) rfl hl.1 rfl (Nat.le_of_ble_eq_true rfl) dX7_best_122 ⟨Nat.zero_le _, Nat.zero_le _⟩ h (fun r_4 S_3 H locs hP hS h => ?_)
        refine lv_istore (lv' := [(6, .int r_4), (5, .int x4), (0, .ref (q 0)), (1, .int x1), (2, .int x2), (3, .int x3), (4, .int x4), (7, .int x7)]) hx hb dX7_best_125 hl (by decide) rfl (fun ls hl => ?_)
        exact L127 x1 x2 x3 x4 x4 r_4 x7 _ _ _ ls hP hS (lv_sub hl [2, 3, 4, 5, 6, 1, 0, 7] rfl) h
      refine lv_iload hx hb dX7_best_50 (lv_at hl 7 rfl) ?_
      refine lv_iload_n hx hb dX7_best_52 rfl (lv_at hl 3 rfl) ?_
      refine z_icmp_ge (tgt := 143) hx hb dX7_best_53 (by decide) h (fun h => ?_) (fun h => ?_)
      · refine lv_iload hx hb dX7_best_143 (lv_at hl 5 rfl) ?_
        refine lv_iconst (v := (-1)) hx hb dX7_best_145 rfl ?_
        refine z_icmp_eq (tgt := 171) hx hb dX7_best_146 (by decide) h (fun h => ?_) (fun h => ?_)
        · refine lv_iload hx hb dX7_best_171 (lv_at hl 5 rfl) ?_
          exact z_iret hx hb hlocks hP hS hQ hr dX7_best_173 h
        · refine lv_aload_n hx hb dX7_best_149 rfl (lv_at hl 0 rfl) ?_
          refine z_get hx hb hU uU_X7 hown hK hP (p_0 hW) rfl rfl 1 (by decide) (hU _ uF_X7_19) rfl dX7_best_150 ?_
          refine lv_aload_n hx hb dX7_best_153 rfl (lv_at hl 0 rfl) ?_
          refine z_get hx hb hU uU_X7 hown hK hP (p_0 hW) rfl rfl 0 (by decide) (hU _ uF_X7_12) rfl dX7_best_154 ?_
          refine z_callV_v hx hb hml hown hU hK hN hP hS 1 (p_8 hW) rfl rfl (zU_V uL_X7_67 uI_X0_keep uS_X0_keep uN_X0 uC_X0_keep) yd_X0_keep ⟨rfl, rfl⟩ ⟨Nat.le_of_ble_eq_true rfl, Nat.le_of_ble_eq_true rfl⟩ (As := [.ref (q 1)]) (fun o h9 => ctX0_keep hq hW (pW_1 hW) h9) rfl hl.1 rfl (Nat.le_of_ble_eq_true rfl) dX7_best_157 ⟨Nat.zero_le _, Nat.zero_le _⟩ h (fun S_5 H locs hP hS h => ?_)
          refine lv_aload_n hx hb dX7_best_160 rfl (lv_at hl 0 rfl) ?_
          refine z_get hx hb hU uU_X7 hown hK hP (p_0 hW) rfl rfl 0 (by decide) (hU _ uF_X7_12) rfl dX7_best_161 ?_
          refine lv_iload_n hx hb dX7_best_164 rfl (lv_at hl 1 rfl) ?_
          refine lv_iload_n hx hb dX7_best_165 rfl (lv_at hl 2 rfl) ?_
          refine lv_iload hx hb dX7_best_166 (lv_at hl 6 rfl) ?_
          refine z_callV_v hx hb hml hown hU hK hN hP hS 3 (pW_1 hW).1 rfl rfl (zU_V uL_X7_130 uI_X6_layRow uS_X6_layRow uN_X6 uC_X6_layRow) yd_X6_layRow ⟨rfl, rfl⟩ ⟨Nat.le_of_ble_eq_true rfl, Nat.le_of_ble_eq_true rfl⟩ (As := [.int x1, .int x2, .int x6]) (fun o h9 => ctX6_layRow hq (pW_1 hW) h9) rfl hl.1 rfl (Nat.le_of_ble_eq_true rfl) dX7_best_168 ⟨Nat.zero_le _, Nat.zero_le _⟩ h (fun S_6 H locs hP hS h => ?_)
          refine lv_iload hx hb dX7_best_171 (lv_at hl 5 rfl) ?_
          exact z_iret hx hb hlocks hP hS hQ hr dX7_best_173 h
      · refine lv_aload_n hx hb dX7_best_56 rfl (lv_at hl 0 rfl) ?_
        refine z_get hx hb hU uU_X7 hown hK hP (p_0 hW) rfl rfl 3 (by decide) (hU _ uF_X7_34) rfl dX7_best_57 ?_
        refine z_callV_i hx hb hml hown hU hK hN hP hS 0 (p_67 hW) rfl rfl (zU_V uL_X7_160 uI_X5_isSteady uS_X5_isSteady uN_X5 uC_X5_isSteady) yd_X5_isSteady ⟨rfl, rfl⟩ ⟨Nat.le_of_ble_eq_true rfl, Nat.le_of_ble_eq_true rfl⟩ (As := []) (fun o h9 => ctX5_isSteady hq hW h9) rfl hl.1 rfl (Nat.le_of_ble_eq_true rfl) dX7_best_60 ⟨Nat.zero_le _, Nat.zero_le _⟩ h (fun r_8 S_7 H locs hP hS h => ?_)
        refine z_if_eq (tgt := 130) hx hb dX7_best_63 (by decide) h (fun h => ?_) (fun h => ?_)
        · exact L130 x1 x2 x3 x4 x5 x6 x7 _ _ _ ls hP hS (lv_sub hl [0, 1, 2, 3, 4, 5, 6, 7] rfl) h
        · refine lv_aload_n hx hb dX7_best_66 rfl (lv_at hl 0 rfl) ?_
          refine z_get hx hb hU uU_X7 hown hK hP (p_0 hW) rfl rfl 3 (by decide) (hU _ uF_X7_34) rfl dX7_best_67 ?_
          refine z_callV_i hx hb hml hown hU hK hN hP hS 0 (p_67 hW) rfl rfl (zU_V uL_X7_179 uI_X5_findLeast uS_X5_findLeast uN_X5 uC_X5_findLeast) yd_X5_findLeast ⟨rfl, rfl⟩ ⟨Nat.le_of_ble_eq_true rfl, Nat.le_of_ble_eq_true rfl⟩ (As := []) (fun o h9 => ctX5_findLeast hq hW h9) rfl hl.1 rfl (Nat.le_of_ble_eq_true rfl) dX7_best_70 ⟨Nat.zero_le _, Nat.zero_le _⟩ h (fun r_10 S_9 H locs hP hS h => ?_)
          refine lv_iconst (v := (-1)) hx hb dX7_best_73 rfl ?_
          refine z_icmp_eq (tgt := 127) hx hb dX7_best_74 (by decide) h (fun h => ?_) (fun h => ?_)
          · exact L127 x1 x2 x3 x4 x5 x6 x7 _ _ _ ls hP hS (lv_sub hl [0, 1, 2, 3, 4, 5, 6, 7] rfl) h
          · refine lv_iload hx hb dX7_best_77 (lv_at hl 5 rfl) ?_
            refine lv_iconst (v := (-1)) hx hb dX7_best_79 rfl ?_
            refine z_icmp_eq (tgt := 100) hx hb dX7_best_80 (by decide) h (fun h => ?_) (fun h => ?_)
            · exact L100 x1 x2 x3 x4 x7 _ _ _ ls hP hS (lv_sub hl [0, 1, 2, 3, 4, 7] rfl) h
            · refine lv_aload_n hx hb dX7_best_83 rfl (lv_at hl 0 rfl) ?_
              refine z_get hx hb hU uU_X7 hown hK hP (p_0 hW) rfl rfl 5 (by decide) (hU _ uF_X7_46) rfl dX7_best_84 ?_
              refine lv_aload_n hx hb dX7_best_87 rfl (lv_at hl 0 rfl) ?_
              refine z_get hx hb hU uU_X7 hown hK hP (p_0 hW) rfl rfl 3 (by decide) (hU _ uF_X7_34) rfl dX7_best_88 ?_
              refine z_get hx hb hU uU_X5 hown hK hP (p_67 hW) rfl rfl 6 (by decide) (hU _ uF_X7_182) rfl dX7_best_91 ?_
              refine z_callV_i hx hb hml hown hU hK hN hP hS 1 (pT_98 hW) rfl rfl (zU_V uL_X7_210 uI_X1_isLessThan uS_X1_isLessThan uN_X1 uC_X1_isLessThan) yd_X1_isLessThan ⟨rfl, rfl⟩ ⟨Nat.le_of_ble_eq_true rfl, Nat.le_of_ble_eq_true rfl⟩ (As := [.ref (q 93)]) (fun o h9 => ctX1_isLessThan hq (pT_98 hW) (pT_93 hW) h9) rfl hl.1 rfl (Nat.le_of_ble_eq_true rfl) dX7_best_94 ⟨Nat.zero_le _, Nat.zero_le _⟩ h (fun r_12 S_11 H locs hP hS h => ?_)
              refine z_if_eq (tgt := 127) hx hb dX7_best_97 (by decide) h (fun h => ?_) (fun h => ?_)
              · exact L127 x1 x2 x3 x4 x5 x6 x7 _ _ _ ls hP hS (lv_sub hl [0, 1, 2, 3, 4, 5, 6, 7] rfl) h
              · exact L100 x1 x2 x3 x4 x7 _ _ _ ls hP hS (lv_sub hl [0, 1, 2, 3, 4, 7] rfl) h
  refine lv_iload_n hx hb dX7_best_0 rfl (lv_at hl 1 rfl) ?_
  refine lv_iload_n hx hb dX7_best_1 rfl (lv_at hl 2 rfl) ?_
  refine lv_aload_n hx hb dX7_best_2 rfl (lv_at hl 0 rfl) ?_
  refine z_get hx hb hU uU_X7 hown hK hP (p_0 hW) rfl rfl 0 (by decide) (hU _ uF_X7_12) rfl dX7_best_3 ?_
  refine z_get hx hb hU uU_X6 hown hK hP (pW_1 hW).1 rfl rfl 0 (by decide) (hU _ uF_X7_124) rfl dX7_best_6 ?_
  refine z_callS_i hx hb hml hown hU hK hN hP hS 3 (zU_J uL_X7_191 uT_X7_areTold uN_X7 uC_X7_areTold) yd_X7_areTold ⟨rfl, rfl⟩ ⟨Nat.le_of_ble_eq_true rfl, Nat.le_of_ble_eq_true rfl⟩ (As := [.int a1, .int a2, .int (S.1 1 0)]) (fun o h9 => ctX7_areTold hq  h9) rfl hl.1 rfl (Nat.le_of_ble_eq_true rfl) dX7_best_9 ⟨Nat.zero_le _, Nat.zero_le _⟩ h (fun r_14 S_13 H locs hP hS h => ?_)
  refine z_if_ne (tgt := 17) hx hb dX7_best_12 (by decide) h (fun h => ?_) (fun h => ?_)
  · refine lv_aload_n hx hb dX7_best_17 rfl (lv_at hl 0 rfl) ?_
    refine z_get hx hb hU uU_X7 hown hK hP (p_0 hW) rfl rfl 4 (by decide) (hU _ uF_X7_40) rfl dX7_best_18 ?_
    refine lv_aload_n hx hb dX7_best_21 rfl (lv_at hl 0 rfl) ?_
    refine z_get hx hb hU uU_X7 hown hK hP (p_0 hW) rfl rfl 0 (by decide) (hU _ uF_X7_12) rfl dX7_best_22 ?_
    refine z_callV_v hx hb hml hown hU hK hN hP hS 1 (pW_68 hW).1 rfl rfl (zU_V uL_X7_185 uI_X6_copyFrom uS_X6_copyFrom uN_X6 uC_X6_copyFrom) yd_X6_copyFrom ⟨rfl, rfl⟩ ⟨Nat.le_of_ble_eq_true rfl, Nat.le_of_ble_eq_true rfl⟩ (As := [.ref (q 1)]) (fun o h9 => ctX6_copyFrom hq (pW_68 hW) (pW_1 hW) h9) rfl hl.1 rfl (Nat.le_of_ble_eq_true rfl) dX7_best_25 ⟨Nat.zero_le _, Nat.zero_le _⟩ h (fun S_15 H locs hP hS h => ?_)
    refine lv_aload_n hx hb dX7_best_28 rfl (lv_at hl 0 rfl) ?_
    refine z_get hx hb hU uU_X7 hown hK hP (p_0 hW) rfl rfl 2 (by decide) (hU _ uF_X7_26) rfl dX7_best_29 ?_
    refine lv_iload_n hx hb dX7_best_32 rfl (lv_at hl 1 rfl) ?_
    refine lv_iload_n hx hb dX7_best_33 rfl (lv_at hl 2 rfl) ?_
    refine z_callV_i hx hb hml hown hU hK hN hP hS 2 (p_66 hW) rfl rfl (zU_V uL_X7_194 uI_X3_start uS_X3_start uN_X3 uC_X3_start) yd_X3_start ⟨rfl, rfl⟩ ⟨Nat.le_of_ble_eq_true rfl, Nat.le_of_ble_eq_true rfl⟩ (As := [.int a1, .int a2]) (fun o h9 => ctX3_start hq hW h9) rfl hl.1 rfl (Nat.le_of_ble_eq_true rfl) dX7_best_34 ⟨Nat.zero_le _, Nat.zero_le _⟩ h (fun r_17 S_16 H locs hP hS h => ?_)
    refine lv_istore_n (lv' := [(3, .int r_17), (0, .ref (q 0)), (1, .int a1), (2, .int a2)]) hx hb dX7_best_37 rfl hl (by decide) rfl (fun ls hl => ?_)
    refine lv_iconst (v := 0) hx hb dX7_best_38 rfl ?_
    refine lv_istore (lv' := [(4, .int 0), (3, .int r_17), (0, .ref (q 0)), (1, .int a1), (2, .int a2)]) hx hb dX7_best_39 hl (by decide) rfl (fun ls hl => ?_)
    refine lv_iconst (v := (-1)) hx hb dX7_best_41 rfl ?_
    refine lv_istore (lv' := [(5, .int (-1)), (4, .int 0), (3, .int r_17), (0, .ref (q 0)), (1, .int a1), (2, .int a2)]) hx hb dX7_best_42 hl (by decide) rfl (fun ls hl => ?_)
    refine lv_iconst (v := 0) hx hb dX7_best_44 rfl ?_
    refine lv_istore (lv' := [(6, .int 0), (5, .int (-1)), (4, .int 0), (3, .int r_17), (0, .ref (q 0)), (1, .int a1), (2, .int a2)]) hx hb dX7_best_45 hl (by decide) rfl (fun ls hl => ?_)
    refine lv_iconst (v := 0) hx hb dX7_best_47 rfl ?_
    refine lv_istore (lv' := [(7, .int 0), (6, .int 0), (5, .int (-1)), (4, .int 0), (3, .int r_17), (0, .ref (q 0)), (1, .int a1), (2, .int a2)]) hx hb dX7_best_48 hl (by decide) rfl (fun ls hl => ?_)
    exact L50 zF a1 a2 r_17 0 (-1) 0 0 _ _ _ ls hP hS (lv_sub hl [5, 6, 7, 4, 3, 2, 1, 0] rfl) h
  · refine lv_iconst (v := (-1)) hx hb dX7_best_15 rfl ?_
    exact z_iret hx hb hlocks hP hS hQ hr dX7_best_16 h

def fX6_dropLeg_12 (b : Nat) (rec : Int32 → zT → Option zT) (x2 : Int32) (S : zT) : Option zT :=
  (if (S.1 b 0) ≤ x2 then some S else zbi (fX2_at (b + 1) 8 (x2 + 1) S) fun r_2 S_1 =>
  zbv (fX2_put (b + 1) 8 x2 r_2 S_1) fun S_3 =>
  zbi (fX2_at (b + 3) 8 (x2 + 1) S_3) fun r_5 S_4 =>
  zbv (fX2_put (b + 3) 8 x2 r_5 S_4) fun S_6 =>
  rec (x2 + 1) S_6)
def fX6_dropLeg (b : Nat) (a1 : Int32) (S : zT) : Option zT :=
  zlet (zsi S b 0 ((S.1 b 0) - 1)) fun S_7 =>
  (zfix (fun _ _ => none) (fX6_dropLeg_12 b) zF) a1 S_7
abbrev rmX6_dropLeg : Room := { frames := 1, cells := 0, slots := 0, locals := 22 }
theorem yd_X6_dropLeg : yX6_dropLeg.cls = RX6 ∧ yX6_dropLeg.cls ≠ "java/lang/invoke/MethodHandle" ∧ yX6_dropLeg.cls ≠ "java/lang/invoke/VarHandle" ∧ (parseMethodDescriptor yX6_dropLeg.desc).map (fun d => d.parameters.length) = some 1 := by decide +kernel
set_option maxRecDepth 100000 in
set_option maxHeartbeats 4000000 in
theorem ctX6_dropLeg {l : Launch} {dC : Nat → ClassId} {dI : Nat → Nat → Nat} {cI : ClassId × ClassId} {cW : List zSh} {q : Nat → Nat} (hq : zI cW q) {b : Nat} (hb0 : isWk cI cW b) {a1 : Int32} {S : zT} {o : zT} (h : fX6_dropLeg b a1 S = some o) : zCv l dC dI cI cW q yX6_dropLeg (Cond.code yX6_dropLeg cX6_dropLeg 3 none :: zU) rmX6_dropLeg [.ref (q b), .int a1] S o := by
  refine zMet_v (lv := [(0, .ref (q b)), (1, .int a1)]) (by decide) (Nat.le_of_ble_eq_true rfl) rfl ?_
  intro p e s m args below meth c Q hx hb hml hr hU hown hlocks hK hN hP hS ls hl hQ
  replace hown : s.vm.findClass RX6 = some m.cls := hown
  unfold fX6_dropLeg at h
  have L12 : ∀ (n12 : Nat) (x2 : Int32) (S : zT) (H : Heap) (locs : List Loc) (ls : Array Slot), va_P (dC, dI) vwCl (zWd cI cW q S) H → va_S (zA cW q) s.heap H locs → lv_has ls 3 [(0, .ref (q b)), (2, .int x2)] → (zfix (fun _ _ => none) (fX6_dropLeg_12 b) n12) x2 S = some o → W p l e rmX6_dropLeg s m args below meth c H locs 0 0 Q (F0 m 12 ls []) := by
    intro n12
    induction n12 with
    | zero => intro x2 S H locs ls hP hS hl h; exact zno (show (none : Option zT) = some o from h)
    | succ n12 ih12 =>
      intro x2 S H locs ls hP hS hl h
      replace h : fX6_dropLeg_12 b (zfix (fun _ _ => none) (fX6_dropLeg_12 b) n12) x2 S = some o := h
      unfold fX6_dropLeg_12 at h
      refine lv_iload_n hx hb dX6_dropLeg_12 rfl (lv_at hl 1 rfl) ?_
      refine lv_aload_n hx hb dX6_dropLeg_13 rfl (lv_at hl 0 rfl) ?_
      refine z_get hx hb hU uU_X6 hown hK hP hb0.1 rfl rfl 0 (by decide) (hU _ uF_X6_26) rfl dX6_dropLeg_14 ?_
      refine z_icmp_ge (tgt := 62) hx hb dX6_dropLeg_17 (by decide) h (fun h => ?_) (fun h => ?_)
      · exact z_vret hx hb hlocks hP hS hQ hr dX6_dropLeg_62 h
      · refine lv_aload_n hx hb dX6_dropLeg_20 rfl (lv_at hl 0 rfl) ?_
        refine z_get hx hb hU uU_X6 hown hK hP hb0.1 rfl rfl 7 (by decide) (hU _ uF_X6_14) rfl dX6_dropLeg_21 ?_
        refine lv_iload_n hx hb dX6_dropLeg_24 rfl (lv_at hl 1 rfl) ?_
        refine lv_aload_n hx hb dX6_dropLeg_25 rfl (lv_at hl 0 rfl) ?_
        refine z_get hx hb hU uU_X6 hown hK hP hb0.1 rfl rfl 7 (by decide) (hU _ uF_X6_14) rfl dX6_dropLeg_26 ?_
        refine lv_iload_n hx hb dX6_dropLeg_29 rfl (lv_at hl 1 rfl) ?_
        refine lv_iconst (v := 1) hx hb dX6_dropLeg_30 rfl ?_
        refine lv_iadd hx hb dX6_dropLeg_31 ?_
        refine z_callV_i hx hb hml hown hU hK hN hP hS 1 hb0.2.1.1 rfl rfl (zU_V uL_X6_60 uI_X2_at uS_X2_at uN_X2 uC_X2_at) yd_X2_at ⟨rfl, rfl⟩ ⟨Nat.le_of_ble_eq_true rfl, Nat.le_of_ble_eq_true rfl⟩ (As := [.int (x2 + 1)]) (fun o h9 => ctX2_at hq hb0.2.1 h9) rfl hl.1 rfl (Nat.le_of_ble_eq_true rfl) dX6_dropLeg_32 ⟨Nat.zero_le _, Nat.zero_le _⟩ h (fun r_2 S_1 H locs hP hS h => ?_)
        refine z_callV_v hx hb hml hown hU hK hN hP hS 2 hb0.2.1.1 rfl rfl (zU_V uL_X6_33 uI_X2_put uS_X2_put uN_X2 uC_X2_put) yd_X2_put ⟨rfl, rfl⟩ ⟨Nat.le_of_ble_eq_true rfl, Nat.le_of_ble_eq_true rfl⟩ (As := [.int x2, .int r_2]) (fun o h9 => ctX2_put hq hb0.2.1 h9) rfl hl.1 rfl (Nat.le_of_ble_eq_true rfl) dX6_dropLeg_35 ⟨Nat.zero_le _, Nat.zero_le _⟩ h (fun S_3 H locs hP hS h => ?_)
        refine lv_aload_n hx hb dX6_dropLeg_38 rfl (lv_at hl 0 rfl) ?_
        refine z_get hx hb hU uU_X6 hown hK hP hb0.1 rfl rfl 8 (by decide) (hU _ uF_X6_20) rfl dX6_dropLeg_39 ?_
        refine lv_iload_n hx hb dX6_dropLeg_42 rfl (lv_at hl 1 rfl) ?_
        refine lv_aload_n hx hb dX6_dropLeg_43 rfl (lv_at hl 0 rfl) ?_
        refine z_get hx hb hU uU_X6 hown hK hP hb0.1 rfl rfl 8 (by decide) (hU _ uF_X6_20) rfl dX6_dropLeg_44 ?_
        refine lv_iload_n hx hb dX6_dropLeg_47 rfl (lv_at hl 1 rfl) ?_
        refine lv_iconst (v := 1) hx hb dX6_dropLeg_48 rfl ?_
        refine lv_iadd hx hb dX6_dropLeg_49 ?_
        refine z_callV_i hx hb hml hown hU hK hN hP hS 1 hb0.2.2.1.1 rfl rfl (zU_V uL_X6_60 uI_X2_at uS_X2_at uN_X2 uC_X2_at) yd_X2_at ⟨rfl, rfl⟩ ⟨Nat.le_of_ble_eq_true rfl, Nat.le_of_ble_eq_true rfl⟩ (As := [.int (x2 + 1)]) (fun o h9 => ctX2_at hq hb0.2.2.1 h9) rfl hl.1 rfl (Nat.le_of_ble_eq_true rfl) dX6_dropLeg_50 ⟨Nat.zero_le _, Nat.zero_le _⟩ h (fun r_5 S_4 H locs hP hS h => ?_)
        refine z_callV_v hx hb hml hown hU hK hN hP hS 2 hb0.2.2.1.1 rfl rfl (zU_V uL_X6_33 uI_X2_put uS_X2_put uN_X2 uC_X2_put) yd_X2_put ⟨rfl, rfl⟩ ⟨Nat.le_of_ble_eq_true rfl, Nat.le_of_ble_eq_true rfl⟩ (As := [.int x2, .int r_5]) (fun o h9 => ctX2_put hq hb0.2.2.1 h9) rfl hl.1 rfl (Nat.le_of_ble_eq_true rfl) dX6_dropLeg_53 ⟨Nat.zero_le _, Nat.zero_le _⟩ h (fun S_6 H locs hP hS h => ?_)
        refine lv_iinc (v := (x2 + 1)) (lv' := [(2, .int (x2 + 1)), (0, .ref (q b))]) hx hb dX6_dropLeg_56 hl (k := 1) rfl rfl (by decide) rfl (fun ls hl => ?_)
        refine lv_goto (tgt := 12) hx hb dX6_dropLeg_59 (by decide) ?_
        exact ih12 (x2 + 1) _ _ _ ls hP hS (lv_sub hl [1, 0] rfl) h
  refine lv_aload_n hx hb dX6_dropLeg_0 rfl (lv_at hl 0 rfl) ?_
  refine lv_dup hx hb dX6_dropLeg_1 rfl ?_
  refine z_get hx hb hU uU_X6 hown hK hP hb0.1 rfl rfl 0 (by decide) (hU _ uF_X6_26) rfl dX6_dropLeg_2 ?_
  refine lv_iconst (v := 1) hx hb dX6_dropLeg_5 rfl ?_
  refine lv_isub hx hb dX6_dropLeg_6 ?_
  refine z_puti hx hb hU uU_X6 tyX6 tyX6_ok nmX6 hown hq hK hP hS hb0.1 rfl rfl 0 (by decide) (hU _ uF_X6_26) rfl rfl rfl (Nat.le_of_ble_eq_true rfl) rfl dX6_dropLeg_7 h (fun S_7 H locs hP hS h => ?_)
  refine lv_iload_n hx hb dX6_dropLeg_10 rfl (lv_at hl 1 rfl) ?_
  refine lv_istore_n (lv' := [(2, .int a1), (0, .ref (q b)), (1, .int a1)]) hx hb dX6_dropLeg_11 rfl hl (by decide) rfl (fun ls hl => ?_)
  exact L12 zF a1 _ _ _ ls hP hS (lv_sub hl [1, 0] rfl) h

def fX7_without (a1 : Int32) (a2 : Int32) (a3 : Int32) (S : zT) : Option (Int32 × zT) :=
  zbi (fX6_hasLeg 1 a1 S) fun r_2 S_1 =>
  (if r_2 = 0 then some ((-1), S_1) else (if (S_1.1 1 0) ≤ 2 then some ((-1), S_1) else (if (S_1.1 1 1) = 2 then some ((-1), S_1) else zbv (fX6_copyFrom 68 1 S_1) fun S_3 =>
  zbv (fX6_dropLeg 68 a1 S_3) fun S_4 =>
  zbi (fX7_countRows a2 a3 S_4) fun r_6 S_5 =>
  some (r_6, S_5))))
abbrev rmX7_without : Room := { frames := 7, cells := 0, slots := 0, locals := 160 }
theorem yd_X7_without : yX7_without.cls = RX7 ∧ yX7_without.cls ≠ "java/lang/invoke/MethodHandle" ∧ yX7_without.cls ≠ "java/lang/invoke/VarHandle" ∧ (parseMethodDescriptor yX7_without.desc).map (fun d => d.parameters.length) = some 3 := by decide +kernel
set_option maxRecDepth 100000 in
set_option maxHeartbeats 4000000 in
theorem ctX7_without {l : Launch} {dC : Nat → ClassId} {dI : Nat → Nat → Nat} {cI : ClassId × ClassId} {cW : List zSh} {q : Nat → Nat} (hq : zI cW q) (hW : zIs cI cW) {a1 : Int32} {a2 : Int32} {a3 : Int32} {S : zT} {o : Int32 × zT} (h : fX7_without a1 a2 a3 S = some o) : zCi l dC dI cI cW q yX7_without (Cond.code yX7_without cX7_without 4 (some .int) :: zU) rmX7_without [.ref (q 0), .int a1, .int a2, .int a3] S o := by
  refine zMet_i (lv := [(0, .ref (q 0)), (1, .int a1), (2, .int a2), (3, .int a3)]) (by decide) (Nat.le_of_ble_eq_true rfl) rfl ?_
  intro p e s m args below meth c Q hx hb hml hr hU hown hlocks hK hN hP hS ls hl hQ
  replace hown : s.vm.findClass RX7 = some m.cls := hown
  unfold fX7_without at h
  refine lv_aload_n hx hb dX7_without_0 rfl (lv_at hl 0 rfl) ?_
  refine z_get hx hb hU uU_X7 hown hK hP (p_0 hW) rfl rfl 0 (by decide) (hU _ uF_X7_12) rfl dX7_without_1 ?_
  refine lv_iload_n hx hb dX7_without_4 rfl (lv_at hl 1 rfl) ?_
  refine z_callV_i hx hb hml hown hU hK hN hP hS 1 (pW_1 hW).1 rfl rfl (zU_V uL_X7_71 uI_X6_hasLeg uS_X6_hasLeg uN_X6 uC_X6_hasLeg) yd_X6_hasLeg ⟨rfl, rfl⟩ ⟨Nat.le_of_ble_eq_true rfl, Nat.le_of_ble_eq_true rfl⟩ (As := [.int a1]) (fun o h9 => ctX6_hasLeg hq (pW_1 hW) h9) rfl hl.1 rfl (Nat.le_of_ble_eq_true rfl) dX7_without_5 ⟨Nat.zero_le _, Nat.zero_le _⟩ h (fun r_2 S_1 H locs hP hS h => ?_)
  refine z_if_eq (tgt := 33) hx hb dX7_without_8 (by decide) h (fun h => ?_) (fun h => ?_)
  · refine lv_iconst (v := (-1)) hx hb dX7_without_33 rfl ?_
    exact z_iret hx hb hlocks hP hS hQ hr dX7_without_34 h
  · refine lv_aload_n hx hb dX7_without_11 rfl (lv_at hl 0 rfl) ?_
    refine z_get hx hb hU uU_X7 hown hK hP (p_0 hW) rfl rfl 0 (by decide) (hU _ uF_X7_12) rfl dX7_without_12 ?_
    refine z_get hx hb hU uU_X6 hown hK hP (pW_1 hW).1 rfl rfl 0 (by decide) (hU _ uF_X7_124) rfl dX7_without_15 ?_
    refine lv_iconst (v := 2) hx hb dX7_without_18 rfl ?_
    refine z_icmp_le (tgt := 33) hx hb dX7_without_19 (by decide) h (fun h => ?_) (fun h => ?_)
    · refine lv_iconst (v := (-1)) hx hb dX7_without_33 rfl ?_
      exact z_iret hx hb hlocks hP hS hQ hr dX7_without_34 h
    · refine lv_aload_n hx hb dX7_without_22 rfl (lv_at hl 0 rfl) ?_
      refine z_get hx hb hU uU_X7 hown hK hP (p_0 hW) rfl rfl 0 (by decide) (hU _ uF_X7_12) rfl dX7_without_23 ?_
      refine z_get hx hb hU uU_X6 hown hK hP (pW_1 hW).1 rfl rfl 1 (by decide) (hU _ uF_X7_134) rfl dX7_without_26 ?_
      refine lv_iconst (v := 2) hx hb dX7_without_29 rfl ?_
      refine z_icmp_ne (tgt := 35) hx hb dX7_without_30 (by decide) h (fun h => ?_) (fun h => ?_)
      · refine lv_aload_n hx hb dX7_without_35 rfl (lv_at hl 0 rfl) ?_
        refine z_get hx hb hU uU_X7 hown hK hP (p_0 hW) rfl rfl 4 (by decide) (hU _ uF_X7_40) rfl dX7_without_36 ?_
        refine lv_aload_n hx hb dX7_without_39 rfl (lv_at hl 0 rfl) ?_
        refine z_get hx hb hU uU_X7 hown hK hP (p_0 hW) rfl rfl 0 (by decide) (hU _ uF_X7_12) rfl dX7_without_40 ?_
        refine z_callV_v hx hb hml hown hU hK hN hP hS 1 (pW_68 hW).1 rfl rfl (zU_V uL_X7_185 uI_X6_copyFrom uS_X6_copyFrom uN_X6 uC_X6_copyFrom) yd_X6_copyFrom ⟨rfl, rfl⟩ ⟨Nat.le_of_ble_eq_true rfl, Nat.le_of_ble_eq_true rfl⟩ (As := [.ref (q 1)]) (fun o h9 => ctX6_copyFrom hq (pW_68 hW) (pW_1 hW) h9) rfl hl.1 rfl (Nat.le_of_ble_eq_true rfl) dX7_without_43 ⟨Nat.zero_le _, Nat.zero_le _⟩ h (fun S_3 H locs hP hS h => ?_)
        refine lv_aload_n hx hb dX7_without_46 rfl (lv_at hl 0 rfl) ?_
        refine z_get hx hb hU uU_X7 hown hK hP (p_0 hW) rfl rfl 4 (by decide) (hU _ uF_X7_40) rfl dX7_without_47 ?_
        refine lv_iload_n hx hb dX7_without_50 rfl (lv_at hl 1 rfl) ?_
        refine z_callV_v hx hb hml hown hU hK hN hP hS 1 (pW_68 hW).1 rfl rfl (zU_V uL_X7_217 uI_X6_dropLeg uS_X6_dropLeg uN_X6 uC_X6_dropLeg) yd_X6_dropLeg ⟨rfl, rfl⟩ ⟨Nat.le_of_ble_eq_true rfl, Nat.le_of_ble_eq_true rfl⟩ (As := [.int a1]) (fun o h9 => ctX6_dropLeg hq (pW_68 hW) h9) rfl hl.1 rfl (Nat.le_of_ble_eq_true rfl) dX7_without_51 ⟨Nat.zero_le _, Nat.zero_le _⟩ h (fun S_4 H locs hP hS h => ?_)
        refine lv_aload_n hx hb dX7_without_54 rfl (lv_at hl 0 rfl) ?_
        refine lv_iload_n hx hb dX7_without_55 rfl (lv_at hl 2 rfl) ?_
        refine lv_iload_n hx hb dX7_without_56 rfl (lv_at hl 3 rfl) ?_
        refine z_callV_i hx hb hml hown hU hK hN hP hS 2 (p_0 hW) rfl rfl (zU_V uL_X7_188 uI_X7_countRows uS_X7_countRows uN_X7 uC_X7_countRows) yd_X7_countRows ⟨rfl, rfl⟩ ⟨Nat.le_of_ble_eq_true rfl, Nat.le_of_ble_eq_true rfl⟩ (As := [.int a2, .int a3]) (fun o h9 => ctX7_countRows hq hW h9) rfl hl.1 rfl (Nat.le_of_ble_eq_true rfl) dX7_without_57 ⟨Nat.zero_le _, Nat.zero_le _⟩ h (fun r_6 S_5 H locs hP hS h => ?_)
        exact z_iret hx hb hlocks hP hS hQ hr dX7_without_60 h
      · refine lv_iconst (v := (-1)) hx hb dX7_without_33 rfl ?_
        exact z_iret hx hb hlocks hP hS hQ hr dX7_without_34 h

def fX7_loads_57 (k30 : Int32 → Int32 → zT → Option (Int32 × zT)) (x2 : Int32) (x3 : Int32) (S : zT) : Option (Int32 × zT) :=
  k30 x2 (x3 + 1) S
def fX7_loads_30 (rec : Int32 → Int32 → zT → Option (Int32 × zT)) (x2 : Int32) (x3 : Int32) (S : zT) : Option (Int32 × zT) :=
  (if 20 < x3 then some (x2, S) else zlet (zsi S 68 2 x3) fun S_1 =>
  zbi (fX5_isSteady S_1) fun r_3 S_2 =>
  (if r_3 = 0 then (fX7_loads_57 rec) x2 x3 S_2 else (fX7_loads_57 rec) (x2 + 1) x3 S_2))
def fX7_loads (a1 : Int32) (S : zT) : Option (Int32 × zT) :=
  zbi (fX7_isWithin a1 (-20) 20 S) fun r_5 S_4 =>
  (if r_5 = 0 then some ((-1), S_4) else zbv (fX7_tryOut S_4) fun S_6 =>
  zlet (zsi S_6 68 3 a1) fun S_7 =>
  (zfix (fun _ _ _ => none) fX7_loads_30 zF) 0 (-20) S_7)
abbrev rmX7_loads : Room := { frames := 6, cells := 0, slots := 0, locals := 132 }
theorem yd_X7_loads : yX7_loads.cls = RX7 ∧ yX7_loads.cls ≠ "java/lang/invoke/MethodHandle" ∧ yX7_loads.cls ≠ "java/lang/invoke/VarHandle" ∧ (parseMethodDescriptor yX7_loads.desc).map (fun d => d.parameters.length) = some 1 := by decide +kernel
set_option maxRecDepth 100000 in
set_option maxHeartbeats 4000000 in
theorem ctX7_loads {l : Launch} {dC : Nat → ClassId} {dI : Nat → Nat → Nat} {cI : ClassId × ClassId} {cW : List zSh} {q : Nat → Nat} (hq : zI cW q) (hW : zIs cI cW) {a1 : Int32} {S : zT} {o : Int32 × zT} (h : fX7_loads a1 S = some o) : zCi l dC dI cI cW q yX7_loads (Cond.code yX7_loads cX7_loads 4 (some .int) :: zU) rmX7_loads [.ref (q 0), .int a1] S o := by
  refine zMet_i (lv := [(0, .ref (q 0)), (1, .int a1)]) (by decide) (Nat.le_of_ble_eq_true rfl) rfl ?_
  intro p e s m args below meth c Q hx hb hml hr hU hown hlocks hK hN hP hS ls hl hQ
  replace hown : s.vm.findClass RX7 = some m.cls := hown
  unfold fX7_loads at h
  have L30 : ∀ (n30 : Nat) (x2 : Int32) (x3 : Int32) (S : zT) (H : Heap) (locs : List Loc) (ls : Array Slot), va_P (dC, dI) vwCl (zWd cI cW q S) H → va_S (zA cW q) s.heap H locs → lv_has ls 4 [(0, .ref (q 0)), (2, .int x2), (3, .int x3)] → (zfix (fun _ _ _ => none) fX7_loads_30 n30) x2 x3 S = some o → W p l e rmX7_loads s m args below meth c H locs 0 0 Q (F0 m 30 ls []) := by
    intro n30
    induction n30 with
    | zero => intro x2 x3 S H locs ls hP hS hl h; exact zno (show (none : Option (Int32 × zT)) = some o from h)
    | succ n30 ih30 =>
      intro x2 x3 S H locs ls hP hS hl h
      replace h : fX7_loads_30 (zfix (fun _ _ _ => none) fX7_loads_30 n30) x2 x3 S = some o := h
      unfold fX7_loads_30 at h
      have L57 : ∀ (x2 : Int32) (x3 : Int32) (S : zT) (H : Heap) (locs : List Loc) (ls : Array Slot), va_P (dC, dI) vwCl (zWd cI cW q S) H → va_S (zA cW q) s.heap H locs → lv_has ls 4 [(0, .ref (q 0)), (2, .int x2), (3, .int x3)] → (fX7_loads_57 (zfix (fun _ _ _ => none) fX7_loads_30 n30)) x2 x3 S = some o → W p l e rmX7_loads s m args below meth c H locs 0 0 Q (F0 m 57 ls []) := by
        intro x2 x3 S H locs ls hP hS hl h
        unfold fX7_loads_57 at h
        refine lv_iinc (v := (x3 + 1)) (lv' := [(3, .int (x3 + 1)), (0, .ref (q 0)), (2, .int x2)]) hx hb dX7_loads_57 hl (k := 2) rfl rfl (by decide) rfl (fun ls hl => ?_)
        refine lv_goto (tgt := 30) hx hb dX7_loads_60 (by decide) ?_
        exact ih30 x2 (x3 + 1) _ _ _ ls hP hS (lv_sub hl [1, 2, 0] rfl) h
      refine lv_iload_n hx hb dX7_loads_30 rfl (lv_at hl 2 rfl) ?_
      refine lv_bipush (v := 20) hx hb dX7_loads_31 rfl ?_
      refine z_icmp_gt (tgt := 63) hx hb dX7_loads_33 (by decide) h (fun h => ?_) (fun h => ?_)
      · refine lv_iload_n hx hb dX7_loads_63 rfl (lv_at hl 1 rfl) ?_
        exact z_iret hx hb hlocks hP hS hQ hr dX7_loads_64 h
      · refine lv_aload_n hx hb dX7_loads_36 rfl (lv_at hl 0 rfl) ?_
        refine z_get hx hb hU uU_X7 hown hK hP (p_0 hW) rfl rfl 4 (by decide) (hU _ uF_X7_40) rfl dX7_loads_37 ?_
        refine lv_iload_n hx hb dX7_loads_40 rfl (lv_at hl 2 rfl) ?_
        refine z_puti hx hb hU uU_X6 tyX6 tyX6_ok nmX6 hown hq hK hP hS (pW_68 hW).1 rfl rfl 2 (by decide) (hU _ uF_X7_92) rfl rfl rfl (Nat.le_of_ble_eq_true rfl) rfl dX7_loads_41 h (fun S_1 H locs hP hS h => ?_)
        refine lv_aload_n hx hb dX7_loads_44 rfl (lv_at hl 0 rfl) ?_
        refine z_get hx hb hU uU_X7 hown hK hP (p_0 hW) rfl rfl 3 (by decide) (hU _ uF_X7_34) rfl dX7_loads_45 ?_
        refine z_callV_i hx hb hml hown hU hK hN hP hS 0 (p_67 hW) rfl rfl (zU_V uL_X7_160 uI_X5_isSteady uS_X5_isSteady uN_X5 uC_X5_isSteady) yd_X5_isSteady ⟨rfl, rfl⟩ ⟨Nat.le_of_ble_eq_true rfl, Nat.le_of_ble_eq_true rfl⟩ (As := []) (fun o h9 => ctX5_isSteady hq hW h9) rfl hl.1 rfl (Nat.le_of_ble_eq_true rfl) dX7_loads_48 ⟨Nat.zero_le _, Nat.zero_le _⟩ h (fun r_3 S_2 H locs hP hS h => ?_)
        refine z_if_eq (tgt := 57) hx hb dX7_loads_51 (by decide) h (fun h => ?_) (fun h => ?_)
        · exact L57 x2 x3 _ _ _ ls hP hS (lv_sub hl [0, 1, 2] rfl) h
        · refine lv_iinc (v := (x2 + 1)) (lv' := [(2, .int (x2 + 1)), (0, .ref (q 0)), (3, .int x3)]) hx hb dX7_loads_54 hl (k := 1) rfl rfl (by decide) rfl (fun ls hl => ?_)
          exact L57 (x2 + 1) x3 _ _ _ ls hP hS (lv_sub hl [1, 0, 2] rfl) h
  refine lv_iload_n hx hb dX7_loads_0 rfl (lv_at hl 1 rfl) ?_
  refine lv_bipush (v := (-20)) hx hb dX7_loads_1 rfl ?_
  refine lv_bipush (v := 20) hx hb dX7_loads_3 rfl ?_
  refine z_callS_i hx hb hml hown hU hK hN hP hS 3 (zU_J uL_X7_63 uT_X7_isWithin uN_X7 uC_X7_isWithin) yd_X7_isWithin ⟨rfl, rfl⟩ ⟨Nat.le_of_ble_eq_true rfl, Nat.le_of_ble_eq_true rfl⟩ (As := [.int a1, .int (-20), .int 20]) (fun o h9 => ctX7_isWithin hq  h9) rfl hl.1 rfl (Nat.le_of_ble_eq_true rfl) dX7_loads_5 ⟨Nat.zero_le _, Nat.zero_le _⟩ h (fun r_5 S_4 H locs hP hS h => ?_)
  refine z_if_ne (tgt := 13) hx hb dX7_loads_8 (by decide) h (fun h => ?_) (fun h => ?_)
  · refine lv_aload_n hx hb dX7_loads_13 rfl (lv_at hl 0 rfl) ?_
    refine z_callV_v hx hb hml hown hU hK hN hP hS 0 (p_0 hW) rfl rfl (zU_V uL_X7_151 uI_X7_tryOut uS_X7_tryOut uN_X7 uC_X7_tryOut) yd_X7_tryOut ⟨rfl, rfl⟩ ⟨Nat.le_of_ble_eq_true rfl, Nat.le_of_ble_eq_true rfl⟩ (As := []) (fun o h9 => ctX7_tryOut hq hW h9) rfl hl.1 rfl (Nat.le_of_ble_eq_true rfl) dX7_loads_14 ⟨Nat.zero_le _, Nat.zero_le _⟩ h (fun S_6 H locs hP hS h => ?_)
    refine lv_aload_n hx hb dX7_loads_17 rfl (lv_at hl 0 rfl) ?_
    refine z_get hx hb hU uU_X7 hown hK hP (p_0 hW) rfl rfl 4 (by decide) (hU _ uF_X7_40) rfl dX7_loads_18 ?_
    refine lv_iload_n hx hb dX7_loads_21 rfl (lv_at hl 1 rfl) ?_
    refine z_puti hx hb hU uU_X6 tyX6 tyX6_ok nmX6 hown hq hK hP hS (pW_68 hW).1 rfl rfl 3 (by decide) (hU _ uF_X7_96) rfl rfl rfl (Nat.le_of_ble_eq_true rfl) rfl dX7_loads_22 h (fun S_7 H locs hP hS h => ?_)
    refine lv_iconst (v := 0) hx hb dX7_loads_25 rfl ?_
    refine lv_istore_n (lv' := [(2, .int 0), (0, .ref (q 0)), (1, .int a1)]) hx hb dX7_loads_26 rfl hl (by decide) rfl (fun ls hl => ?_)
    refine lv_bipush (v := (-20)) hx hb dX7_loads_27 rfl ?_
    refine lv_istore_n (lv' := [(3, .int (-20)), (2, .int 0), (0, .ref (q 0)), (1, .int a1)]) hx hb dX7_loads_29 rfl hl (by decide) rfl (fun ls hl => ?_)
    exact L30 zF 0 (-20) _ _ _ ls hP hS (lv_sub hl [2, 1, 0] rfl) h
  · refine lv_iconst (v := (-1)) hx hb dX7_loads_11 rfl ?_
    exact z_iret hx hb hlocks hP hS hQ hr dX7_loads_12 h

