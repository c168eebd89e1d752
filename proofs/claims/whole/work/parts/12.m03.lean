def fX5_readLeg_100 (k52 : Int32 → Int32 → zT → Option zT) (x1 : Int32) (x2 : Int32) (S : zT) : Option zT :=
  k52 x1 (x2 + 1) S
def fX5_readLeg_52 (rec : Int32 → Int32 → zT → Option zT) (x1 : Int32) (x2 : Int32) (S : zT) : Option zT :=
  (if (S.1 68 6) ≤ x2 then some S else zbi (fX6_isDown 68 x1 x2 S) fun r_2 S_1 =>
  (if r_2 = 0 then (fX5_readLeg_100 rec) x1 x2 S_1 else zbi (fX6_tickAhead 68 x2 S_1) fun r_4 S_3 =>
  zbi (fX6_isDown 68 x1 r_4 S_3) fun r_6 S_5 =>
  (if r_6 = 0 then zbv (fX5_readStance x1 x2 S_5) fun S_7 =>
  (fX5_readLeg_100 rec) x1 x2 S_7 else (fX5_readLeg_100 rec) x1 x2 S_5)))
def fX5_readLeg_19 (rec : Int32 → Int32 → zT → Option zT) (x1 : Int32) (x2 : Int32) (S : zT) : Option zT :=
  (if (S.1 68 6) ≤ x2 then (zfix (fun _ _ _ => none) fX5_readLeg_52 zF) x1 0 S else zbv (fX2_put 75 128 ((x1 * 16) + x2) 0 S) fun S_8 =>
  rec x1 (x2 + 1) S_8)
def fX5_readLeg (a1 : Int32) (S : zT) : Option zT :=
  (if (S.1 67 4) = 0 then zbv (fX2_put 77 8 a1 0 S) fun S_9 =>
  (zfix (fun _ _ _ => none) fX5_readLeg_19 zF) a1 0 S_9 else some S)
abbrev rmX5_readLeg : Room := { frames := 3, cells := 0, slots := 0, locals := 69 }
theorem yd_X5_readLeg : yX5_readLeg.cls = RX5 ∧ yX5_readLeg.cls ≠ "java/lang/invoke/MethodHandle" ∧ yX5_readLeg.cls ≠ "java/lang/invoke/VarHandle" ∧ (parseMethodDescriptor yX5_readLeg.desc).map (fun d => d.parameters.length) = some 1 := by decide +kernel
set_option maxRecDepth 100000 in
set_option maxHeartbeats 4000000 in
theorem ctX5_readLeg {l : Launch} {dC : Nat → ClassId} {dI : Nat → Nat → Nat} {cI : ClassId × ClassId} {cW : List zSh} {q : Nat → Nat} (hq : zI cW q) (hW : zIs cI cW) {a1 : Int32} {S : zT} {o : zT} (h : fX5_readLeg a1 S = some o) : zCv l dC dI cI cW q yX5_readLeg (Cond.code yX5_readLeg cX5_readLeg 3 none :: zU) rmX5_readLeg [.ref (q 67), .int a1] S o := by
  refine zMet_v (lv := [(0, .ref (q 67)), (1, .int a1)]) (by decide) (Nat.le_of_ble_eq_true rfl) rfl ?_
  intro p e s m args below meth c Q hx hb hml hr hU hown hlocks hK hN hP hS ls hl hQ
  replace hown : s.vm.findClass RX5 = some m.cls := hown
  unfold fX5_readLeg at h
  have L19 : ∀ (n19 : Nat) (x1 : Int32) (x2 : Int32) (S : zT) (H : Heap) (locs : List Loc) (ls : Array Slot), va_P (dC, dI) vwCl (zWd cI cW q S) H → va_S (zA cW q) s.heap H locs → lv_has ls 3 [(0, .ref (q 67)), (1, .int x1), (2, .int x2)] → (zfix (fun _ _ _ => none) fX5_readLeg_19 n19) x1 x2 S = some o → W p l e rmX5_readLeg s m args below meth c H locs 0 0 Q (F0 m 19 ls []) := by
    intro n19
    induction n19 with
    | zero => intro x1 x2 S H locs ls hP hS hl h; exact zno (show (none : Option zT) = some o from h)
    | succ n19 ih19 =>
      intro x1 x2 S H locs ls hP hS hl h
      replace h : fX5_readLeg_19 (zfix (fun _ _ _ => none) fX5_readLeg_19 n19) x1 x2 S = some o := h
      unfold fX5_readLeg_19 at h
      have L52 : ∀ (n52 : Nat) (x1 : Int32) (x2 : Int32) (S : zT) (H : Heap) (locs : List Loc) (ls : Array Slot), va_P (dC, dI) vwCl (zWd cI cW q S) H → va_S (zA cW q) s.heap H locs → lv_has ls 3 [(0, .ref (q 67)), (1, .int x1), (2, .int x2)] → (zfix (fun _ _ _ => none) fX5_readLeg_52 n52) x1 x2 S = some o → W p l e rmX5_readLeg s m args below meth c H locs 0 0 Q (F0 m 52 ls []) := by
        intro n52
        induction n52 with
        | zero => intro x1 x2 S H locs ls hP hS hl h; exact zno (show (none : Option zT) = some o from h)
        | succ n52 ih52 =>
          intro x1 x2 S H locs ls hP hS hl h
          replace h : fX5_readLeg_52 (zfix (fun _ _ _ => none) fX5_readLeg_52 n52) x1 x2 S = some o := h
          unfold fX5_readLeg_52 at h
          have L100 : ∀ (x1 : Int32) (x2 : Int32) (S : zT) (H : Heap) (locs : List Loc) (ls : Array Slot), va_P (dC, dI) vwCl (zWd cI cW q S) H → va_S (zA cW q) s.heap H locs → lv_has ls 3 [(0, .ref (q 67)), (1, .int x1), (2, .int x2)] → (fX5_readLeg_100 (zfix (fun _ _ _ => none) fX5_readLeg_52 n52)) x1 x2 S = some o → W p l e rmX5_readLeg s m args below meth c H locs 0 0 Q (F0 m 100 ls []) := by
            intro x1 x2 S H locs ls hP hS hl h
            unfold fX5_readLeg_100 at h
            refine lv_iinc (v := (x2 + 1)) (lv' := [(2, .int (x2 + 1)), (0, .ref (q 67)), (1, .int x1)]) hx hb dX5_readLeg_100 hl (k := 2) rfl rfl (by decide) rfl (fun ls hl => ?_)
            refine lv_goto (tgt := 52) hx hb dX5_readLeg_103 (by decide) ?_
            exact ih52 x1 (x2 + 1) _ _ _ ls hP hS (lv_sub hl [1, 2, 0] rfl) h
          refine lv_iload_n hx hb dX5_readLeg_52 rfl (lv_at hl 2 rfl) ?_
          refine lv_aload_n hx hb dX5_readLeg_53 rfl (lv_at hl 0 rfl) ?_
          refine z_get hx hb hU uU_X5 hown hK hP (p_67 hW) rfl rfl 0 (by decide) (hU _ uF_X5_12) rfl dX5_readLeg_54 ?_
          refine z_get hx hb hU uU_X6 hown hK hP (pW_68 hW).1 rfl rfl 6 (by decide) (hU _ uF_X5_74) rfl dX5_readLeg_57 ?_
          refine z_icmp_ge (tgt := 106) hx hb dX5_readLeg_60 (by decide) h (fun h => ?_) (fun h => ?_)
          · exact z_vret hx hb hlocks hP hS hQ hr dX5_readLeg_106 h
          · refine lv_aload_n hx hb dX5_readLeg_63 rfl (lv_at hl 0 rfl) ?_
            refine z_get hx hb hU uU_X5 hown hK hP (p_67 hW) rfl rfl 0 (by decide) (hU _ uF_X5_12) rfl dX5_readLeg_64 ?_
            refine lv_iload_n hx hb dX5_readLeg_67 rfl (lv_at hl 1 rfl) ?_
            refine lv_iload_n hx hb dX5_readLeg_68 rfl (lv_at hl 2 rfl) ?_
            refine z_callV_i hx hb hml hown hU hK hN hP hS 2 (pW_68 hW).1 rfl rfl (zU_V uL_X5_77 uI_X6_isDown uS_X6_isDown uN_X6 uC_X6_isDown) yd_X6_isDown ⟨rfl, rfl⟩ ⟨Nat.le_of_ble_eq_true rfl, Nat.le_of_ble_eq_true rfl⟩ (As := [.int x1, .int x2]) (fun o h9 => ctX6_isDown hq (pW_68 hW) h9) rfl hl.1 rfl (Nat.le_of_ble_eq_true rfl) dX5_readLeg_69 ⟨Nat.zero_le _, Nat.zero_le _⟩ h (fun r_2 S_1 H locs hP hS h => ?_)
            refine z_if_eq (tgt := 100) hx hb dX5_readLeg_72 (by decide) h (fun h => ?_) (fun h => ?_)
            · exact L100 x1 x2 _ _ _ ls hP hS (lv_sub hl [0, 1, 2] rfl) h
            · refine lv_aload_n hx hb dX5_readLeg_75 rfl (lv_at hl 0 rfl) ?_
              refine z_get hx hb hU uU_X5 hown hK hP (p_67 hW) rfl rfl 0 (by decide) (hU _ uF_X5_12) rfl dX5_readLeg_76 ?_
              refine lv_iload_n hx hb dX5_readLeg_79 rfl (lv_at hl 1 rfl) ?_
              refine lv_aload_n hx hb dX5_readLeg_80 rfl (lv_at hl 0 rfl) ?_
              refine z_get hx hb hU uU_X5 hown hK hP (p_67 hW) rfl rfl 0 (by decide) (hU _ uF_X5_12) rfl dX5_readLeg_81 ?_
              refine lv_iload_n hx hb dX5_readLeg_84 rfl (lv_at hl 2 rfl) ?_
              refine z_callV_i hx hb hml hown hU hK hN hP hS 1 (pW_68 hW).1 rfl rfl (zU_V uL_X5_81 uI_X6_tickAhead uS_X6_tickAhead uN_X6 uC_X6_tickAhead) yd_X6_tickAhead ⟨rfl, rfl⟩ ⟨Nat.le_of_ble_eq_true rfl, Nat.le_of_ble_eq_true rfl⟩ (As := [.int x2]) (fun o h9 => ctX6_tickAhead hq (pW_68 hW) h9) rfl hl.1 rfl (Nat.le_of_ble_eq_true rfl) dX5_readLeg_85 ⟨Nat.zero_le _, Nat.zero_le _⟩ h (fun r_4 S_3 H locs hP hS h => ?_)
              refine z_callV_i hx hb hml hown hU hK hN hP hS 2 (pW_68 hW).1 rfl rfl (zU_V uL_X5_77 uI_X6_isDown uS_X6_isDown uN_X6 uC_X6_isDown) yd_X6_isDown ⟨rfl, rfl⟩ ⟨Nat.le_of_ble_eq_true rfl, Nat.le_of_ble_eq_true rfl⟩ (As := [.int x1, .int r_4]) (fun o h9 => ctX6_isDown hq (pW_68 hW) h9) rfl hl.1 rfl (Nat.le_of_ble_eq_true rfl) dX5_readLeg_88 ⟨Nat.zero_le _, Nat.zero_le _⟩ h (fun r_6 S_5 H locs hP hS h => ?_)
              refine z_if_ne (tgt := 100) hx hb dX5_readLeg_91 (by decide) h (fun h => ?_) (fun h => ?_)
              · exact L100 x1 x2 _ _ _ ls hP hS (lv_sub hl [0, 1, 2] rfl) h
              · refine lv_aload_n hx hb dX5_readLeg_94 rfl (lv_at hl 0 rfl) ?_
                refine lv_iload_n hx hb dX5_readLeg_95 rfl (lv_at hl 1 rfl) ?_
                refine lv_iload_n hx hb dX5_readLeg_96 rfl (lv_at hl 2 rfl) ?_
                refine z_callV_v hx hb hml hown hU hK hN hP hS 2 (p_67 hW) rfl rfl (zU_V uL_X5_84 uI_X5_readStance uS_X5_readStance uN_X5 uC_X5_readStance) yd_X5_readStance ⟨rfl, rfl⟩ ⟨Nat.le_of_ble_eq_true rfl, Nat.le_of_ble_eq_true rfl⟩ (As := [.int x1, .int x2]) (fun o h9 => ctX5_readStance hq hW h9) rfl hl.1 rfl (Nat.le_of_ble_eq_true rfl) dX5_readLeg_97 ⟨Nat.zero_le _, Nat.zero_le _⟩ h (fun S_7 H locs hP hS h => ?_)
                exact L100 x1 x2 _ _ _ ls hP hS (lv_sub hl [0, 1, 2] rfl) h
      refine lv_iload_n hx hb dX5_readLeg_19 rfl (lv_at hl 2 rfl) ?_
      refine lv_aload_n hx hb dX5_readLeg_20 rfl (lv_at hl 0 rfl) ?_
      refine z_get hx hb hU uU_X5 hown hK hP (p_67 hW) rfl rfl 0 (by decide) (hU _ uF_X5_12) rfl dX5_readLeg_21 ?_
      refine z_get hx hb hU uU_X6 hown hK hP (pW_68 hW).1 rfl rfl 6 (by decide) (hU _ uF_X5_74) rfl dX5_readLeg_24 ?_
      refine z_icmp_ge (tgt := 50) hx hb dX5_readLeg_27 (by decide) h (fun h => ?_) (fun h => ?_)
      · refine lv_iconst (v := 0) hx hb dX5_readLeg_50 rfl ?_
        refine lv_istore_n (lv' := [(2, .int 0), (0, .ref (q 67)), (1, .int x1)]) hx hb dX5_readLeg_51 rfl hl (by decide) rfl (fun ls hl => ?_)
        exact L52 zF x1 0 _ _ _ ls hP hS (lv_sub hl [1, 2, 0] rfl) h
      · refine lv_aload_n hx hb dX5_readLeg_30 rfl (lv_at hl 0 rfl) ?_
        refine z_get hx hb hU uU_X5 hown hK hP (p_67 hW) rfl rfl 1 (by decide) (hU _ uF_X5_23) rfl dX5_readLeg_31 ?_
        refine lv_iload_n hx hb dX5_readLeg_34 rfl (lv_at hl 1 rfl) ?_
        refine lv_bipush (v := 16) hx hb dX5_readLeg_35 rfl ?_
        refine lv_imul hx hb dX5_readLeg_37 ?_
        refine lv_iload_n hx hb dX5_readLeg_38 rfl (lv_at hl 2 rfl) ?_
        refine lv_iadd hx hb dX5_readLeg_39 ?_
        refine lv_iconst (v := 0) hx hb dX5_readLeg_40 rfl ?_
        refine z_callV_v hx hb hml hown hU hK hN hP hS 2 (pR_75 hW).1 rfl rfl (zU_V uL_X5_66 uI_X2_put uS_X2_put uN_X2 uC_X2_put) yd_X2_put ⟨rfl, rfl⟩ ⟨Nat.le_of_ble_eq_true rfl, Nat.le_of_ble_eq_true rfl⟩ (As := [.int ((x1 * 16) + x2), .int 0]) (fun o h9 => ctX2_put hq (pR_75 hW) h9) rfl hl.1 rfl (Nat.le_of_ble_eq_true rfl) dX5_readLeg_41 ⟨Nat.zero_le _, Nat.zero_le _⟩ h (fun S_8 H locs hP hS h => ?_)
        refine lv_iinc (v := (x2 + 1)) (lv' := [(2, .int (x2 + 1)), (0, .ref (q 67)), (1, .int x1)]) hx hb dX5_readLeg_44 hl (k := 2) rfl rfl (by decide) rfl (fun ls hl => ?_)
        refine lv_goto (tgt := 19) hx hb dX5_readLeg_47 (by decide) ?_
        exact ih19 x1 (x2 + 1) _ _ _ ls hP hS (lv_sub hl [1, 2, 0] rfl) h
  refine lv_aload_n hx hb dX5_readLeg_0 rfl (lv_at hl 0 rfl) ?_
  refine z_get hx hb hU uU_X5 hown hK hP (p_67 hW) rfl rfl 4 (by decide) (hU _ uF_X5_47) rfl dX5_readLeg_1 ?_
  refine z_if_eq (tgt := 8) hx hb dX5_readLeg_4 (by decide) h (fun h => ?_) (fun h => ?_)
  · refine lv_aload_n hx hb dX5_readLeg_8 rfl (lv_at hl 0 rfl) ?_
    refine z_get hx hb hU uU_X5 hown hK hP (p_67 hW) rfl rfl 2 (by decide) (hU _ uF_X5_27) rfl dX5_readLeg_9 ?_
    refine lv_iload_n hx hb dX5_readLeg_12 rfl (lv_at hl 1 rfl) ?_
    refine lv_iconst (v := 0) hx hb dX5_readLeg_13 rfl ?_
    refine z_callV_v hx hb hml hown hU hK hN hP hS 2 (pR_77 hW).1 rfl rfl (zU_V uL_X5_66 uI_X2_put uS_X2_put uN_X2 uC_X2_put) yd_X2_put ⟨rfl, rfl⟩ ⟨Nat.le_of_ble_eq_true rfl, Nat.le_of_ble_eq_true rfl⟩ (As := [.int a1, .int 0]) (fun o h9 => ctX2_put hq (pR_77 hW) h9) rfl hl.1 rfl (Nat.le_of_ble_eq_true rfl) dX5_readLeg_14 ⟨Nat.zero_le _, Nat.zero_le _⟩ h (fun S_9 H locs hP hS h => ?_)
    refine lv_iconst (v := 0) hx hb dX5_readLeg_17 rfl ?_
    refine lv_istore_n (lv' := [(2, .int 0), (0, .ref (q 67)), (1, .int a1)]) hx hb dX5_readLeg_18 rfl hl (by decide) rfl (fun ls hl => ?_)
    exact L19 zF a1 0 _ _ _ ls hP hS (lv_sub hl [1, 2, 0] rfl) h
  · exact z_vret hx hb hlocks hP hS hQ hr dX5_readLeg_7 h

def fX5_readGait_7 (rec : Int32 → zT → Option zT) (x1 : Int32) (S : zT) : Option zT :=
  (if (S.1 68 0) ≤ x1 then some S else zbv (fX5_readLeg x1 S) fun S_1 =>
  rec (x1 + 1) S_1)
def fX5_readGait (S : zT) : Option zT :=
  zlet (zsi S 67 4 0) fun S_2 =>
  (zfix (fun _ _ => none) fX5_readGait_7 zF) 0 S_2
abbrev rmX5_readGait : Room := { frames := 4, cells := 0, slots := 0, locals := 91 }
theorem yd_X5_readGait : yX5_readGait.cls = RX5 ∧ yX5_readGait.cls ≠ "java/lang/invoke/MethodHandle" ∧ yX5_readGait.cls ≠ "java/lang/invoke/VarHandle" ∧ (parseMethodDescriptor yX5_readGait.desc).map (fun d => d.parameters.length) = some 0 := by decide +kernel
set_option maxRecDepth 100000 in
set_option maxHeartbeats 4000000 in
theorem ctX5_readGait {l : Launch} {dC : Nat → ClassId} {dI : Nat → Nat → Nat} {cI : ClassId × ClassId} {cW : List zSh} {q : Nat → Nat} (hq : zI cW q) (hW : zIs cI cW) {S : zT} {o : zT} (h : fX5_readGait S = some o) : zCv l dC dI cI cW q yX5_readGait (Cond.code yX5_readGait cX5_readGait 2 none :: zU) rmX5_readGait [.ref (q 67)] S o := by
  refine zMet_v (lv := [(0, .ref (q 67))]) (by decide) (Nat.le_of_ble_eq_true rfl) rfl ?_
  intro p e s m args below meth c Q hx hb hml hr hU hown hlocks hK hN hP hS ls hl hQ
  replace hown : s.vm.findClass RX5 = some m.cls := hown
  unfold fX5_readGait at h
  have L7 : ∀ (n7 : Nat) (x1 : Int32) (S : zT) (H : Heap) (locs : List Loc) (ls : Array Slot), va_P (dC, dI) vwCl (zWd cI cW q S) H → va_S (zA cW q) s.heap H locs → lv_has ls 2 [(0, .ref (q 67)), (1, .int x1)] → (zfix (fun _ _ => none) fX5_readGait_7 n7) x1 S = some o → W p l e rmX5_readGait s m args below meth c H locs 0 0 Q (F0 m 7 ls []) := by
    intro n7
    induction n7 with
    | zero => intro x1 S H locs ls hP hS hl h; exact zno (show (none : Option zT) = some o from h)
    | succ n7 ih7 =>
      intro x1 S H locs ls hP hS hl h
      replace h : fX5_readGait_7 (zfix (fun _ _ => none) fX5_readGait_7 n7) x1 S = some o := h
      unfold fX5_readGait_7 at h
      refine lv_iload_n hx hb dX5_readGait_7 rfl (lv_at hl 1 rfl) ?_
      refine lv_aload_n hx hb dX5_readGait_8 rfl (lv_at hl 0 rfl) ?_
      refine z_get hx hb hU uU_X5 hown hK hP (p_67 hW) rfl rfl 0 (by decide) (hU _ uF_X5_12) rfl dX5_readGait_9 ?_
      refine z_get hx hb hU uU_X6 hown hK hP (pW_68 hW).1 rfl rfl 0 (by decide) (hU _ uF_X5_51) rfl dX5_readGait_12 ?_
      refine z_icmp_ge (tgt := 29) hx hb dX5_readGait_15 (by decide) h (fun h => ?_) (fun h => ?_)
      · exact z_vret hx hb hlocks hP hS hQ hr dX5_readGait_29 h
      · refine lv_aload_n hx hb dX5_readGait_18 rfl (lv_at hl 0 rfl) ?_
        refine lv_iload_n hx hb dX5_readGait_19 rfl (lv_at hl 1 rfl) ?_
        refine z_callV_v hx hb hml hown hU hK hN hP hS 1 (p_67 hW) rfl rfl (zU_V uL_X5_55 uI_X5_readLeg uS_X5_readLeg uN_X5 uC_X5_readLeg) yd_X5_readLeg ⟨rfl, rfl⟩ ⟨Nat.le_of_ble_eq_true rfl, Nat.le_of_ble_eq_true rfl⟩ (As := [.int x1]) (fun o h9 => ctX5_readLeg hq hW h9) rfl hl.1 rfl (Nat.le_of_ble_eq_true rfl) dX5_readGait_20 ⟨Nat.zero_le _, Nat.zero_le _⟩ h (fun S_1 H locs hP hS h => ?_)
        refine lv_iinc (v := (x1 + 1)) (lv' := [(1, .int (x1 + 1)), (0, .ref (q 67))]) hx hb dX5_readGait_23 hl (k := 1) rfl rfl (by decide) rfl (fun ls hl => ?_)
        refine lv_goto (tgt := 7) hx hb dX5_readGait_26 (by decide) ?_
        exact ih7 (x1 + 1) _ _ _ ls hP hS (lv_sub hl [1, 0] rfl) h
  refine lv_aload_n hx hb dX5_readGait_0 rfl (lv_at hl 0 rfl) ?_
  refine lv_iconst (v := 0) hx hb dX5_readGait_1 rfl ?_
  refine z_puti hx hb hU uU_X5 tyX5 tyX5_ok nmX5 hown hq hK hP hS (p_67 hW) rfl rfl 4 (by decide) (hU _ uF_X5_47) rfl rfl rfl (Nat.le_of_ble_eq_true rfl) rfl dX5_readGait_2 h (fun S_2 H locs hP hS h => ?_)
  refine lv_iconst (v := 0) hx hb dX5_readGait_5 rfl ?_
  refine lv_istore_n (lv' := [(1, .int 0), (0, .ref (q 67))]) hx hb dX5_readGait_6 rfl hl (by decide) rfl (fun ls hl => ?_)
  exact L7 zF 0 _ _ _ ls hP hS (lv_sub hl [1, 0] rfl) h

def fX7_tryOut (S : zT) : Option zT :=
  zbv (fX6_copyFrom 68 1 S) fun S_1 =>
  zbv (fX5_readGait S_1) fun S_2 =>
  some S_2
abbrev rmX7_tryOut : Room := { frames := 5, cells := 0, slots := 0, locals := 112 }
theorem yd_X7_tryOut : yX7_tryOut.cls = RX7 ∧ yX7_tryOut.cls ≠ "java/lang/invoke/MethodHandle" ∧ yX7_tryOut.cls ≠ "java/lang/invoke/VarHandle" ∧ (parseMethodDescriptor yX7_tryOut.desc).map (fun d => d.parameters.length) = some 0 := by decide +kernel
set_option maxRecDepth 100000 in
set_option maxHeartbeats 4000000 in
theorem ctX7_tryOut {l : Launch} {dC : Nat → ClassId} {dI : Nat → Nat → Nat} {cI : ClassId × ClassId} {cW : List zSh} {q : Nat → Nat} (hq : zI cW q) (hW : zIs cI cW) {S : zT} {o : zT} (h : fX7_tryOut S = some o) : zCv l dC dI cI cW q yX7_tryOut (Cond.code yX7_tryOut cX7_tryOut 1 none :: zU) rmX7_tryOut [.ref (q 0)] S o := by
  refine zMet_v (lv := [(0, .ref (q 0))]) (by decide) (Nat.le_of_ble_eq_true rfl) rfl ?_
  intro p e s m args below meth c Q hx hb hml hr hU hown hlocks hK hN hP hS ls hl hQ
  replace hown : s.vm.findClass RX7 = some m.cls := hown
  unfold fX7_tryOut at h
  refine lv_aload_n hx hb dX7_tryOut_0 rfl (lv_at hl 0 rfl) ?_
  refine z_get hx hb hU uU_X7 hown hK hP (p_0 hW) rfl rfl 4 (by decide) (hU _ uF_X7_40) rfl dX7_tryOut_1 ?_
  refine lv_aload_n hx hb dX7_tryOut_4 rfl (lv_at hl 0 rfl) ?_
  refine z_get hx hb hU uU_X7 hown hK hP (p_0 hW) rfl rfl 0 (by decide) (hU _ uF_X7_12) rfl dX7_tryOut_5 ?_
  refine z_callV_v hx hb hml hown hU hK hN hP hS 1 (pW_68 hW).1 rfl rfl (zU_V uL_X7_185 uI_X6_copyFrom uS_X6_copyFrom uN_X6 uC_X6_copyFrom) yd_X6_copyFrom ⟨rfl, rfl⟩ ⟨Nat.le_of_ble_eq_true rfl, Nat.le_of_ble_eq_true rfl⟩ (As := [.ref (q 1)]) (fun o h9 => ctX6_copyFrom hq (pW_68 hW) (pW_1 hW) h9) rfl hl.1 rfl (Nat.le_of_ble_eq_true rfl) dX7_tryOut_8 ⟨Nat.zero_le _, Nat.zero_le _⟩ h (fun S_1 H locs hP hS h => ?_)
  refine lv_aload_n hx hb dX7_tryOut_11 rfl (lv_at hl 0 rfl) ?_
  refine z_get hx hb hU uU_X7 hown hK hP (p_0 hW) rfl rfl 3 (by decide) (hU _ uF_X7_34) rfl dX7_tryOut_12 ?_
  refine z_callV_v hx hb hml hown hU hK hN hP hS 0 (p_67 hW) rfl rfl (zU_V uL_X7_251 uI_X5_readGait uS_X5_readGait uN_X5 uC_X5_readGait) yd_X5_readGait ⟨rfl, rfl⟩ ⟨Nat.le_of_ble_eq_true rfl, Nat.le_of_ble_eq_true rfl⟩ (As := []) (fun o h9 => ctX5_readGait hq hW h9) rfl hl.1 rfl (Nat.le_of_ble_eq_true rfl) dX7_tryOut_15 ⟨Nat.zero_le _, Nat.zero_le _⟩ h (fun S_2 H locs hP hS h => ?_)
  exact z_vret hx hb hlocks hP hS hQ hr dX7_tryOut_18 h

def fX5_twiceY (a1 : Int32) (a2 : Int32) (S : zT) : Option (Int32 × zT) :=
  zbi (fX2_at (68 + 3) 8 a1 S) fun r_2 S_1 =>
  zbi (fX2_at 75 128 ((a1 * 16) + a2) S_1) fun r_4 S_3 =>
  some (((2 * r_2) + ((S_1.1 68 4) * r_4)), S_3)
abbrev rmX5_twiceY : Room := { frames := 1, cells := 0, slots := 0, locals := 21 }
theorem yd_X5_twiceY : yX5_twiceY.cls = RX5 ∧ yX5_twiceY.cls ≠ "java/lang/invoke/MethodHandle" ∧ yX5_twiceY.cls ≠ "java/lang/invoke/VarHandle" ∧ (parseMethodDescriptor yX5_twiceY.desc).map (fun d => d.parameters.length) = some 2 := by decide +kernel
set_option maxRecDepth 100000 in
set_option maxHeartbeats 4000000 in
theorem ctX5_twiceY {l : Launch} {dC : Nat → ClassId} {dI : Nat → Nat → Nat} {cI : ClassId × ClassId} {cW : List zSh} {q : Nat → Nat} (hq : zI cW q) (hW : zIs cI cW) {a1 : Int32} {a2 : Int32} {S : zT} {o : Int32 × zT} (h : fX5_twiceY a1 a2 S = some o) : zCi l dC dI cI cW q yX5_twiceY (Cond.code yX5_twiceY cX5_twiceY 3 (some .int) :: zU) rmX5_twiceY [.ref (q 67), .int a1, .int a2] S o := by
  refine zMet_i (lv := [(0, .ref (q 67)), (1, .int a1), (2, .int a2)]) (by decide) (Nat.le_of_ble_eq_true rfl) rfl ?_
  intro p e s m args below meth c Q hx hb hml hr hU hown hlocks hK hN hP hS ls hl hQ
  replace hown : s.vm.findClass RX5 = some m.cls := hown
  unfold fX5_twiceY at h
  refine lv_iconst (v := 2) hx hb dX5_twiceY_0 rfl ?_
  refine lv_aload_n hx hb dX5_twiceY_1 rfl (lv_at hl 0 rfl) ?_
  refine z_get hx hb hU uU_X5 hown hK hP (p_67 hW) rfl rfl 0 (by decide) (hU _ uF_X5_12) rfl dX5_twiceY_2 ?_
  refine z_get hx hb hU uU_X6 hown hK hP (pW_68 hW).1 rfl rfl 8 (by decide) (hU _ uF_X5_96) rfl dX5_twiceY_5 ?_
  refine lv_iload_n hx hb dX5_twiceY_8 rfl (lv_at hl 1 rfl) ?_
  refine z_callV_i hx hb hml hown hU hK hN hP hS 1 (pW_68 hW).2.2.1.1 rfl rfl (zU_V uL_X5_70 uI_X2_at uS_X2_at uN_X2 uC_X2_at) yd_X2_at ⟨rfl, rfl⟩ ⟨Nat.le_of_ble_eq_true rfl, Nat.le_of_ble_eq_true rfl⟩ (As := [.int a1]) (fun o h9 => ctX2_at hq (pW_68 hW).2.2.1 h9) rfl hl.1 rfl (Nat.le_of_ble_eq_true rfl) dX5_twiceY_9 ⟨Nat.zero_le _, Nat.zero_le _⟩ h (fun r_2 S_1 H locs hP hS h => ?_)
  refine lv_imul hx hb dX5_twiceY_12 ?_
  refine lv_aload_n hx hb dX5_twiceY_13 rfl (lv_at hl 0 rfl) ?_
  refine z_get hx hb hU uU_X5 hown hK hP (p_67 hW) rfl rfl 0 (by decide) (hU _ uF_X5_12) rfl dX5_twiceY_14 ?_
  refine z_get hx hb hU uU_X6 hown hK hP (pW_68 hW).1 rfl rfl 4 (by decide) (hU _ uF_X5_99) rfl dX5_twiceY_17 ?_
  refine lv_aload_n hx hb dX5_twiceY_20 rfl (lv_at hl 0 rfl) ?_
  refine z_get hx hb hU uU_X5 hown hK hP (p_67 hW) rfl rfl 1 (by decide) (hU _ uF_X5_23) rfl dX5_twiceY_21 ?_
  refine lv_iload_n hx hb dX5_twiceY_24 rfl (lv_at hl 1 rfl) ?_
  refine lv_bipush (v := 16) hx hb dX5_twiceY_25 rfl ?_
  refine lv_imul hx hb dX5_twiceY_27 ?_
  refine lv_iload_n hx hb dX5_twiceY_28 rfl (lv_at hl 2 rfl) ?_
  refine lv_iadd hx hb dX5_twiceY_29 ?_
  refine z_callV_i hx hb hml hown hU hK hN hP hS 1 (pR_75 hW).1 rfl rfl (zU_V uL_X5_70 uI_X2_at uS_X2_at uN_X2 uC_X2_at) yd_X2_at ⟨rfl, rfl⟩ ⟨Nat.le_of_ble_eq_true rfl, Nat.le_of_ble_eq_true rfl⟩ (As := [.int ((a1 * 16) + a2)]) (fun o h9 => ctX2_at hq (pR_75 hW) h9) rfl hl.1 rfl (Nat.le_of_ble_eq_true rfl) dX5_twiceY_30 ⟨Nat.zero_le _, Nat.zero_le _⟩ h (fun r_4 S_3 H locs hP hS h => ?_)
  refine lv_imul hx hb dX5_twiceY_33 ?_
  refine lv_iadd hx hb dX5_twiceY_34 ?_
  exact z_iret hx hb hlocks hP hS hQ hr dX5_twiceY_35 h

def fX7_foot (a1 : Int32) (a2 : Int32) (a3 : Int32) (S : zT) : Option (Int32 × zT) :=
  zbi (fX6_hasLeg 1 a1 S) fun r_2 S_1 =>
  (if r_2 = 0 then some ((-1000), S_1) else zbi (fX6_hasTick 1 a2 S_1) fun r_4 S_3 =>
  (if r_4 = 0 then some ((-1000), S_3) else zbi (fX7_isWithin a3 0 1 S_3) fun r_6 S_5 =>
  (if r_6 = 0 then some ((-1000), S_5) else zbi (fX6_isDown 1 a1 a2 S_5) fun r_8 S_7 =>
  (if r_8 = 0 then some ((-1000), S_7) else (if a3 = 0 then zbi (fX2_at (1 + 1) 8 a1 S_7) fun r_13 S_12 =>
  some ((2 * r_13), S_12) else zbv (fX7_tryOut S_7) fun S_9 =>
  zbi (fX5_twiceY a1 a2 S_9) fun r_11 S_10 =>
  some (r_11, S_10))))))
abbrev rmX7_foot : Room := { frames := 6, cells := 0, slots := 0, locals := 132 }
theorem yd_X7_foot : yX7_foot.cls = RX7 ∧ yX7_foot.cls ≠ "java/lang/invoke/MethodHandle" ∧ yX7_foot.cls ≠ "java/lang/invoke/VarHandle" ∧ (parseMethodDescriptor yX7_foot.desc).map (fun d => d.parameters.length) = some 3 := by decide +kernel
set_option maxRecDepth 100000 in
set_option maxHeartbeats 4000000 in
theorem ctX7_foot {l : Launch} {dC : Nat → ClassId} {dI : Nat → Nat → Nat} {cI : ClassId × ClassId} {cW : List zSh} {q : Nat → Nat} (hq : zI cW q) (hW : zIs cI cW) {a1 : Int32} {a2 : Int32} {a3 : Int32} {S : zT} {o : Int32 × zT} (h : fX7_foot a1 a2 a3 S = some o) : zCi l dC dI cI cW q yX7_foot (Cond.code yX7_foot cX7_foot 4 (some .int) :: zU) rmX7_foot [.ref (q 0), .int a1, .int a2, .int a3] S o := by
  refine zMet_i (lv := [(0, .ref (q 0)), (1, .int a1), (2, .int a2), (3, .int a3)]) (by decide) (Nat.le_of_ble_eq_true rfl) rfl ?_
  intro p e s m args below meth c Q hx hb hml hr hU hown hlocks hK hN hP hS ls hl hQ
  replace hown : s.vm.findClass RX7 = some m.cls := hown
  unfold fX7_foot at h
  refine lv_aload_n hx hb dX7_foot_0 rfl (lv_at hl 0 rfl) ?_
  refine z_get hx hb hU uU_X7 hown hK hP (p_0 hW) rfl rfl 0 (by decide) (hU _ uF_X7_12) rfl dX7_foot_1 ?_
  refine lv_iload_n hx hb dX7_foot_4 rfl (lv_at hl 1 rfl) ?_
  refine z_callV_i hx hb hml hown hU hK hN hP hS 1 (pW_1 hW).1 rfl rfl (zU_V uL_X7_71 uI_X6_hasLeg uS_X6_hasLeg uN_X6 uC_X6_hasLeg) yd_X6_hasLeg ⟨rfl, rfl⟩ ⟨Nat.le_of_ble_eq_true rfl, Nat.le_of_ble_eq_true rfl⟩ (As := [.int a1]) (fun o h9 => ctX6_hasLeg hq (pW_1 hW) h9) rfl hl.1 rfl (Nat.le_of_ble_eq_true rfl) dX7_foot_5 ⟨Nat.zero_le _, Nat.zero_le _⟩ h (fun r_2 S_1 H locs hP hS h => ?_)
  refine z_if_eq (tgt := 43) hx hb dX7_foot_8 (by decide) h (fun h => ?_) (fun h => ?_)
  · refine lv_sipush (v := (-1000)) hx hb dX7_foot_43 rfl ?_
    exact z_iret hx hb hlocks hP hS hQ hr dX7_foot_46 h
  · refine lv_aload_n hx hb dX7_foot_11 rfl (lv_at hl 0 rfl) ?_
    refine z_get hx hb hU uU_X7 hown hK hP (p_0 hW) rfl rfl 0 (by decide) (hU _ uF_X7_12) rfl dX7_foot_12 ?_
    refine lv_iload_n hx hb dX7_foot_15 rfl (lv_at hl 2 rfl) ?_
    refine z_callV_i hx hb hml hown hU hK hN hP hS 1 (pW_1 hW).1 rfl rfl (zU_V uL_X7_115 uI_X6_hasTick uS_X6_hasTick uN_X6 uC_X6_hasTick) yd_X6_hasTick ⟨rfl, rfl⟩ ⟨Nat.le_of_ble_eq_true rfl, Nat.le_of_ble_eq_true rfl⟩ (As := [.int a2]) (fun o h9 => ctX6_hasTick hq (pW_1 hW) h9) rfl hl.1 rfl (Nat.le_of_ble_eq_true rfl) dX7_foot_16 ⟨Nat.zero_le _, Nat.zero_le _⟩ h (fun r_4 S_3 H locs hP hS h => ?_)
    refine z_if_eq (tgt := 43) hx hb dX7_foot_19 (by decide) h (fun h => ?_) (fun h => ?_)
    · refine lv_sipush (v := (-1000)) hx hb dX7_foot_43 rfl ?_
      exact z_iret hx hb hlocks hP hS hQ hr dX7_foot_46 h
    · refine lv_iload_n hx hb dX7_foot_22 rfl (lv_at hl 3 rfl) ?_
      refine lv_iconst (v := 0) hx hb dX7_foot_23 rfl ?_
      refine lv_iconst (v := 1) hx hb dX7_foot_24 rfl ?_
      refine z_callS_i hx hb hml hown hU hK hN hP hS 3 (zU_J uL_X7_63 uT_X7_isWithin uN_X7 uC_X7_isWithin) yd_X7_isWithin ⟨rfl, rfl⟩ ⟨Nat.le_of_ble_eq_true rfl, Nat.le_of_ble_eq_true rfl⟩ (As := [.int a3, .int 0, .int 1]) (fun o h9 => ctX7_isWithin hq  h9) rfl hl.1 rfl (Nat.le_of_ble_eq_true rfl) dX7_foot_25 ⟨Nat.zero_le _, Nat.zero_le _⟩ h (fun r_6 S_5 H locs hP hS h => ?_)
      refine z_if_eq (tgt := 43) hx hb dX7_foot_28 (by decide) h (fun h => ?_) (fun h => ?_)
      · refine lv_sipush (v := (-1000)) hx hb dX7_foot_43 rfl ?_
        exact z_iret hx hb hlocks hP hS hQ hr dX7_foot_46 h
      · refine lv_aload_n hx hb dX7_foot_31 rfl (lv_at hl 0 rfl) ?_
        refine z_get hx hb hU uU_X7 hown hK hP (p_0 hW) rfl rfl 0 (by decide) (hU _ uF_X7_12) rfl dX7_foot_32 ?_
        refine lv_iload_n hx hb dX7_foot_35 rfl (lv_at hl 1 rfl) ?_
        refine lv_iload_n hx hb dX7_foot_36 rfl (lv_at hl 2 rfl) ?_
        refine z_callV_i hx hb hml hown hU hK hN hP hS 2 (pW_1 hW).1 rfl rfl (zU_V uL_X7_148 uI_X6_isDown uS_X6_isDown uN_X6 uC_X6_isDown) yd_X6_isDown ⟨rfl, rfl⟩ ⟨Nat.le_of_ble_eq_true rfl, Nat.le_of_ble_eq_true rfl⟩ (As := [.int a1, .int a2]) (fun o h9 => ctX6_isDown hq (pW_1 hW) h9) rfl hl.1 rfl (Nat.le_of_ble_eq_true rfl) dX7_foot_37 ⟨Nat.zero_le _, Nat.zero_le _⟩ h (fun r_8 S_7 H locs hP hS h => ?_)
        refine z_if_ne (tgt := 47) hx hb dX7_foot_40 (by decide) h (fun h => ?_) (fun h => ?_)
        · refine lv_iload_n hx hb dX7_foot_47 rfl (lv_at hl 3 rfl) ?_
          refine z_if_ne (tgt := 65) hx hb dX7_foot_48 (by decide) h (fun h => ?_) (fun h => ?_)
          · refine lv_aload_n hx hb dX7_foot_65 rfl (lv_at hl 0 rfl) ?_
            refine z_callV_v hx hb hml hown hU hK hN hP hS 0 (p_0 hW) rfl rfl (zU_V uL_X7_151 uI_X7_tryOut uS_X7_tryOut uN_X7 uC_X7_tryOut) yd_X7_tryOut ⟨rfl, rfl⟩ ⟨Nat.le_of_ble_eq_true rfl, Nat.le_of_ble_eq_true rfl⟩ (As := []) (fun o h9 => ctX7_tryOut hq hW h9) rfl hl.1 rfl (Nat.le_of_ble_eq_true rfl) dX7_foot_66 ⟨Nat.zero_le _, Nat.zero_le _⟩ h (fun S_9 H locs hP hS h => ?_)
            refine lv_aload_n hx hb dX7_foot_69 rfl (lv_at hl 0 rfl) ?_
            refine z_get hx hb hU uU_X7 hown hK hP (p_0 hW) rfl rfl 3 (by decide) (hU _ uF_X7_34) rfl dX7_foot_70 ?_
            refine lv_iload_n hx hb dX7_foot_73 rfl (lv_at hl 1 rfl) ?_
            refine lv_iload_n hx hb dX7_foot_74 rfl (lv_at hl 2 rfl) ?_
            refine z_callV_i hx hb hml hown hU hK hN hP hS 2 (p_67 hW) rfl rfl (zU_V uL_X7_154 uI_X5_twiceY uS_X5_twiceY uN_X5 uC_X5_twiceY) yd_X5_twiceY ⟨rfl, rfl⟩ ⟨Nat.le_of_ble_eq_true rfl, Nat.le_of_ble_eq_true rfl⟩ (As := [.int a1, .int a2]) (fun o h9 => ctX5_twiceY hq hW h9) rfl hl.1 rfl (Nat.le_of_ble_eq_true rfl) dX7_foot_75 ⟨Nat.zero_le _, Nat.zero_le _⟩ h (fun r_11 S_10 H locs hP hS h => ?_)
            exact z_iret hx hb hlocks hP hS hQ hr dX7_foot_78 h
          · refine lv_iconst (v := 2) hx hb dX7_foot_51 rfl ?_
            refine lv_aload_n hx hb dX7_foot_52 rfl (lv_at hl 0 rfl) ?_
            refine z_get hx hb hU uU_X7 hown hK hP (p_0 hW) rfl rfl 0 (by decide) (hU _ uF_X7_12) rfl dX7_foot_53 ?_
            refine z_get hx hb hU uU_X6 hown hK hP (pW_1 hW).1 rfl rfl 7 (by decide) (hU _ uF_X7_83) rfl dX7_foot_56 ?_
            refine lv_iload_n hx hb dX7_foot_59 rfl (lv_at hl 1 rfl) ?_
            refine z_callV_i hx hb hml hown hU hK hN hP hS 1 (pW_1 hW).2.1.1 rfl rfl (zU_V uL_X7_145 uI_X2_at uS_X2_at uN_X2 uC_X2_at) yd_X2_at ⟨rfl, rfl⟩ ⟨Nat.le_of_ble_eq_true rfl, Nat.le_of_ble_eq_true rfl⟩ (As := [.int a1]) (fun o h9 => ctX2_at hq (pW_1 hW).2.1 h9) rfl hl.1 rfl (Nat.le_of_ble_eq_true rfl) dX7_foot_60 ⟨Nat.zero_le _, Nat.zero_le _⟩ h (fun r_13 S_12 H locs hP hS h => ?_)
            refine lv_imul hx hb dX7_foot_63 ?_
            exact z_iret hx hb hlocks hP hS hQ hr dX7_foot_64 h
        · refine lv_sipush (v := (-1000)) hx hb dX7_foot_43 rfl ?_
          exact z_iret hx hb hlocks hP hS hQ hr dX7_foot_46 h

def fX5_isShortHop_127 (x2 : Int32) (S : zT) : Option (Int32 × zT) :=
  (if 2 < x2 then some (0, S) else some (1, S))
def fX5_isShortHop_83 (rec : Int32 → Int32 → Int32 → zT → Option (Int32 × zT)) (x2 : Int32) (x3 : Int32) (x4 : Int32) (S : zT) : Option (Int32 × zT) :=
  (if (S.1 68 6) ≤ x4 then fX5_isShortHop_127 x2 S else zbi (fX2_at (68 + 5) 16 x3 S) fun r_2 S_1 =>
  (if r_2 = 0 then zbi (fX6_tickAfter 68 x3 S_1) fun r_4 S_3 =>
  rec (x2 + 1) r_4 (x4 + 1) S_3 else fX5_isShortHop_127 x2 S_1))
def fX5_isShortHop_58 (x1 : Int32) (x2 : Int32) (S : zT) : Option (Int32 × zT) :=
  (if x2 < (S.1 68 6) then zbi (fX6_tickAfter 68 x1 S) fun r_6 S_5 =>
  (zfix (fun _ _ _ _ => none) fX5_isShortHop_83 zF) x2 r_6 1 S_5 else some (0, S))
def fX5_isShortHop_14 (rec : Int32 → Int32 → Int32 → Int32 → zT → Option (Int32 × zT)) (x1 : Int32) (x2 : Int32) (x3 : Int32) (x4 : Int32) (S : zT) : Option (Int32 × zT) :=
  (if (S.1 68 6) ≤ x4 then fX5_isShortHop_58 x1 x2 S else zbi (fX2_at (68 + 5) 16 x3 S) fun r_8 S_7 =>
  (if r_8 = 0 then zbi (fX6_tickAhead 68 x3 S_7) fun r_10 S_9 =>
  rec x1 (x2 + 1) r_10 (x4 + 1) S_9 else fX5_isShortHop_58 x1 x2 S_7))
def fX5_isShortHop (a1 : Int32) (S : zT) : Option (Int32 × zT) :=
  zbi (fX6_tickAhead 68 a1 S) fun r_12 S_11 =>
  (zfix (fun _ _ _ _ _ => none) fX5_isShortHop_14 zF) a1 1 r_12 1 S_11
abbrev rmX5_isShortHop : Room := { frames := 1, cells := 0, slots := 0, locals := 21 }
theorem yd_X5_isShortHop : yX5_isShortHop.cls = RX5 ∧ yX5_isShortHop.cls ≠ "java/lang/invoke/MethodHandle" ∧ yX5_isShortHop.cls ≠ "java/lang/invoke/VarHandle" ∧ (parseMethodDescriptor yX5_isShortHop.desc).map (fun d => d.parameters.length) = some 1 := by decide +kernel
set_option maxRecDepth 100000 in
set_option maxHeartbeats 4000000 in
theorem ctX5_isShortHop {l : Launch} {dC : Nat → ClassId} {dI : Nat → Nat → Nat} {cI : ClassId × ClassId} {cW : List zSh} {q : Nat → Nat} (hq : zI cW q) (hW : zIs cI cW) {a1 : Int32} {S : zT} {o : Int32 × zT} (h : fX5_isShortHop a1 S = some o) : zCi l dC dI cI cW q yX5_isShortHop (Cond.code yX5_isShortHop cX5_isShortHop 5 (some .boolean) :: zU) rmX5_isShortHop [.ref (q 67), .int a1] S o := by
  refine zMet_i (lv := [(0, .ref (q 67)), (1, .int a1)]) (by decide) (Nat.le_of_ble_eq_true rfl) rfl ?_
  intro p e s m args below meth c Q hx hb hml hr hU hown hlocks hK hN hP hS ls hl hQ
  replace hown : s.vm.findClass RX5 = some m.cls := hown
  unfold fX5_isShortHop at h
  have L14 : ∀ (n14 : Nat) (x1 : Int32) (x2 : Int32) (x3 : Int32) (x4 : Int32) (S : zT) (H : Heap) (locs : List Loc) (ls : Array Slot), va_P (dC, dI) vwCl (zWd cI cW q S) H → va_S (zA cW q) s.heap H locs → lv_has ls 5 [(0, .ref (q 67)), (1, .int x1), (2, .int x2), (3, .int x3), (4, .int x4)] → (zfix (fun _ _ _ _ _ => none) fX5_isShortHop_14 n14) x1 x2 x3 x4 S = some o → W p l e rmX5_isShortHop s m args below meth c H locs 0 0 Q (F0 m 14 ls []) := by
    intro n14
    induction n14 with
    | zero => intro x1 x2 x3 x4 S H locs ls hP hS hl h; exact zno (show (none : Option (Int32 × zT)) = some o from h)
    | succ n14 ih14 =>
      intro x1 x2 x3 x4 S H locs ls hP hS hl h
      replace h : fX5_isShortHop_14 (zfix (fun _ _ _ _ _ => none) fX5_isShortHop_14 n14) x1 x2 x3 x4 S = some o := h
      unfold fX5_isShortHop_14 at h
      have L58 : ∀ (x1 : Int32) (x2 : Int32) (S : zT) (H : Heap) (locs : List Loc) (ls : Array Slot), va_P (dC, dI) vwCl (zWd cI cW q S) H → va_S (zA cW q) s.heap H locs → lv_has ls 5 [(0, .ref (q 67)), (1, .int x1), (2, .int x2)] → fX5_isShortHop_58 x1 x2 S = some o → W p l e rmX5_isShortHop s m args below meth c H locs 0 0 Q (F0 m 58 ls []) := by
        intro x1 x2 S H locs ls hP hS hl h
        unfold fX5_isShortHop_58 at h
        have L83 : ∀ (n83 : Nat) (x2 : Int32) (x3 : Int32) (x4 : Int32) (S : zT) (H : Heap) (locs : List Loc) (ls : Array Slot), va_P (dC, dI) vwCl (zWd cI cW q S) H → va_S (zA cW q) s.heap H locs → lv_has ls 5 [(0, .ref (q 67)), (2, .int x2), (3, .int x3), (4, .int x4)] → (zfix (fun _ _ _ _ => none) fX5_isShortHop_83 n83) x2 x3 x4 S = some o → W p l e rmX5_isShortHop s m args below meth c H locs 0 0 Q (F0 m 83 ls []) := by
          intro n83
          induction n83 with
          | zero => intro x2 x3 x4 S H locs ls hP hS hl h; exact zno (show (none : Option (Int32 × zT)) = some o from h)
          | succ n83 ih83 =>
            intro x2 x3 x4 S H locs ls hP hS hl h
            replace h : fX5_isShortHop_83 (zfix (fun _ _ _ _ => none) fX5_isShortHop_83 n83) x2 x3 x4 S = some o := h
            unfold fX5_isShortHop_83 at h
            have L127 : ∀ (x2 : Int32) (S : zT) (H : Heap) (locs : List Loc) (ls : Array Slot), va_P (dC, dI) vwCl (zWd cI cW q S) H → va_S (zA cW q) s.heap H locs → lv_has ls 5 [(2, .int x2)] → fX5_isShortHop_127 x2 S = some o → W p l e rmX5_isShortHop s m args below meth c H locs 0 0 Q (F0 m 127 ls []) := by
              intro x2 S H locs ls hP hS hl h
              unfold fX5_isShortHop_127 at h
              refine lv_iload_n hx hb dX5_isShortHop_127 rfl (lv_at hl 0 rfl) ?_
              refine lv_iconst (v := 2) hx hb dX5_isShortHop_128 rfl ?_
              refine z_icmp_gt (tgt := 136) hx hb dX5_isShortHop_129 (by decide) h (fun h => ?_) (fun h => ?_)
              · refine lv_iconst (v := 0) hx hb dX5_isShortHop_136 rfl ?_
                exact z_zretC hx hb hlocks hP hS hQ hr dX5_isShortHop_137 (Or.inl rfl) h
              · refine lv_iconst (v := 1) hx hb dX5_isShortHop_132 rfl ?_
                refine lv_goto (tgt := 137) hx hb dX5_isShortHop_133 (by decide) ?_
                exact z_zretC hx hb hlocks hP hS hQ hr dX5_isShortHop_137 (Or.inr rfl) h
            refine lv_iload hx hb dX5_isShortHop_83 (lv_at hl 3 rfl) ?_
            refine lv_aload_n hx hb dX5_isShortHop_85 rfl (lv_at hl 0 rfl) ?_
            refine z_get hx hb hU uU_X5 hown hK hP (p_67 hW) rfl rfl 0 (by decide) (hU _ uF_X5_12) rfl dX5_isShortHop_86 ?_
            refine z_get hx hb hU uU_X6 hown hK hP (pW_68 hW).1 rfl rfl 6 (by decide) (hU _ uF_X5_74) rfl dX5_isShortHop_89 ?_
            refine z_icmp_ge (tgt := 127) hx hb dX5_isShortHop_92 (by decide) h (fun h => ?_) (fun h => ?_)
            · exact L127 x2 _ _ _ ls hP hS (lv_sub hl [1] rfl) h
            · refine lv_aload_n hx hb dX5_isShortHop_95 rfl (lv_at hl 0 rfl) ?_
              refine z_get hx hb hU uU_X5 hown hK hP (p_67 hW) rfl rfl 0 (by decide) (hU _ uF_X5_12) rfl dX5_isShortHop_96 ?_
              refine z_get hx hb hU uU_X6 hown hK hP (pW_68 hW).1 rfl rfl 9 (by decide) (hU _ uF_X5_114) rfl dX5_isShortHop_99 ?_
              refine lv_iload_n hx hb dX5_isShortHop_102 rfl (lv_at hl 2 rfl) ?_
              refine z_callV_i hx hb hml hown hU hK hN hP hS 1 (pW_68 hW).2.2.2.1 rfl rfl (zU_V uL_X5_70 uI_X2_at uS_X2_at uN_X2 uC_X2_at) yd_X2_at ⟨rfl, rfl⟩ ⟨Nat.le_of_ble_eq_true rfl, Nat.le_of_ble_eq_true rfl⟩ (As := [.int x3]) (fun o h9 => ctX2_at hq (pW_68 hW).2.2.2 h9) rfl hl.1 rfl (Nat.le_of_ble_eq_true rfl) dX5_isShortHop_103 ⟨Nat.zero_le _, Nat.zero_le _⟩ h (fun r_2 S_1 H locs hP hS h => ?_)
              refine z_if_ne (tgt := 127) hx hb dX5_isShortHop_106 (by decide) h (fun h => ?_) (fun h => ?_)
              · exact L127 x2 _ _ _ ls hP hS (lv_sub hl [1] rfl) h
              · refine lv_iinc (v := (x2 + 1)) (lv' := [(2, .int (x2 + 1)), (0, .ref (q 67)), (3, .int x3), (4, .int x4)]) hx hb dX5_isShortHop_109 hl (k := 1) rfl rfl (by decide) rfl (fun ls hl => ?_)
                refine lv_aload_n hx hb dX5_isShortHop_112 rfl (lv_at hl 1 rfl) ?_
                refine z_get hx hb hU uU_X5 hown hK hP (p_67 hW) rfl rfl 0 (by decide) (hU _ uF_X5_12) rfl dX5_isShortHop_113 ?_
                refine lv_iload_n hx hb dX5_isShortHop_116 rfl (lv_at hl 2 rfl) ?_
                refine z_callV_i hx hb hml hown hU hK hN hP hS 1 (pW_68 hW).1 rfl rfl (zU_V uL_X5_87 uI_X6_tickAfter uS_X6_tickAfter uN_X6 uC_X6_tickAfter) yd_X6_tickAfter ⟨rfl, rfl⟩ ⟨Nat.le_of_ble_eq_true rfl, Nat.le_of_ble_eq_true rfl⟩ (As := [.int x3]) (fun o h9 => ctX6_tickAfter hq (pW_68 hW) h9) rfl hl.1 rfl (Nat.le_of_ble_eq_true rfl) dX5_isShortHop_117 ⟨Nat.zero_le _, Nat.zero_le _⟩ h (fun r_4 S_3 H locs hP hS h => ?_)
                refine lv_istore_n (lv' := [(3, .int r_4), (2, .int (x2 + 1)), (0, .ref (q 67)), (4, .int x4)]) hx hb dX5_isShortHop_120 rfl hl (by decide) rfl (fun ls hl => ?_)
                refine lv_iinc (v := (x4 + 1)) (lv' := [(4, .int (x4 + 1)), (3, .int r_4), (2, .int (x2 + 1)), (0, .ref (q 67))]) hx hb dX5_isShortHop_121 hl (k := 3) rfl rfl (by decide) rfl (fun ls hl => ?_)
                refine lv_goto (tgt := 83) hx hb dX5_isShortHop_124 (by decide) ?_
                exact ih83 (x2 + 1) r_4 (x4 + 1) _ _ _ ls hP hS (lv_sub hl [3, 2, 1, 0] rfl) h
        refine lv_iload_n hx hb dX5_isShortHop_58 rfl (lv_at hl 2 rfl) ?_
        refine lv_aload_n hx hb dX5_isShortHop_59 rfl (lv_at hl 0 rfl) ?_
        refine z_get hx hb hU uU_X5 hown hK hP (p_67 hW) rfl rfl 0 (by decide) (hU _ uF_X5_12) rfl dX5_isShortHop_60 ?_
        refine z_get hx hb hU uU_X6 hown hK hP (pW_68 hW).1 rfl rfl 6 (by decide) (hU _ uF_X5_74) rfl dX5_isShortHop_63 ?_
        refine z_icmp_lt (tgt := 71) hx hb dX5_isShortHop_66 (by decide) h (fun h => ?_) (fun h => ?_)
        · refine lv_aload_n hx hb dX5_isShortHop_71 rfl (lv_at hl 0 rfl) ?_
          refine z_get hx hb hU uU_X5 hown hK hP (p_67 hW) rfl rfl 0 (by decide) (hU _ uF_X5_12) rfl dX5_isShortHop_72 ?_
          refine lv_iload_n hx hb dX5_isShortHop_75 rfl (lv_at hl 1 rfl) ?_
          refine z_callV_i hx hb hml hown hU hK hN hP hS 1 (pW_68 hW).1 rfl rfl (zU_V uL_X5_87 uI_X6_tickAfter uS_X6_tickAfter uN_X6 uC_X6_tickAfter) yd_X6_tickAfter ⟨rfl, rfl⟩ ⟨Nat.le_of_ble_eq_true rfl, Nat.le_of_ble_eq_true rfl⟩ (As := [.int x1]) (fun o h9 => ctX6_tickAfter hq (pW_68 hW) h9) rfl hl.1 rfl (Nat.le_of_ble_eq_true rfl) dX5_isShortHop_76 ⟨Nat.zero_le _, Nat.zero_le _⟩ h (fun r_6 S_5 H locs hP hS h => ?_)
          refine lv_istore_n (lv' := [(3, .int r_6), (0, .ref (q 67)), (1, .int x1), (2, .int x2)]) hx hb dX5_isShortHop_79 rfl hl (by decide) rfl (fun ls hl => ?_)
          refine lv_iconst (v := 1) hx hb dX5_isShortHop_80 rfl ?_
          refine lv_istore (lv' := [(4, .int 1), (3, .int r_6), (0, .ref (q 67)), (1, .int x1), (2, .int x2)]) hx hb dX5_isShortHop_81 hl (by decide) rfl (fun ls hl => ?_)
          exact L83 zF x2 r_6 1 _ _ _ ls hP hS (lv_sub hl [2, 4, 1, 0] rfl) h
        · refine lv_iconst (v := 0) hx hb dX5_isShortHop_69 rfl ?_
          exact z_zretC hx hb hlocks hP hS hQ hr dX5_isShortHop_70 (Or.inl rfl) h
      refine lv_iload hx hb dX5_isShortHop_14 (lv_at hl 4 rfl) ?_
      refine lv_aload_n hx hb dX5_isShortHop_16 rfl (lv_at hl 0 rfl) ?_
      refine z_get hx hb hU uU_X5 hown hK hP (p_67 hW) rfl rfl 0 (by decide) (hU _ uF_X5_12) rfl dX5_isShortHop_17 ?_
      refine z_get hx hb hU uU_X6 hown hK hP (pW_68 hW).1 rfl rfl 6 (by decide) (hU _ uF_X5_74) rfl dX5_isShortHop_20 ?_
      refine z_icmp_ge (tgt := 58) hx hb dX5_isShortHop_23 (by decide) h (fun h => ?_) (fun h => ?_)
      · exact L58 x1 x2 _ _ _ ls hP hS (lv_sub hl [0, 1, 2] rfl) h
      · refine lv_aload_n hx hb dX5_isShortHop_26 rfl (lv_at hl 0 rfl) ?_
        refine z_get hx hb hU uU_X5 hown hK hP (p_67 hW) rfl rfl 0 (by decide) (hU _ uF_X5_12) rfl dX5_isShortHop_27 ?_
        refine z_get hx hb hU uU_X6 hown hK hP (pW_68 hW).1 rfl rfl 9 (by decide) (hU _ uF_X5_114) rfl dX5_isShortHop_30 ?_
        refine lv_iload_n hx hb dX5_isShortHop_33 rfl (lv_at hl 3 rfl) ?_
        refine z_callV_i hx hb hml hown hU hK hN hP hS 1 (pW_68 hW).2.2.2.1 rfl rfl (zU_V uL_X5_70 uI_X2_at uS_X2_at uN_X2 uC_X2_at) yd_X2_at ⟨rfl, rfl⟩ ⟨Nat.le_of_ble_eq_true rfl, Nat.le_of_ble_eq_true rfl⟩ (As := [.int x3]) (fun o h9 => ctX2_at hq (pW_68 hW).2.2.2 h9) rfl hl.1 rfl (Nat.le_of_ble_eq_true rfl) dX5_isShortHop_34 ⟨Nat.zero_le _, Nat.zero_le _⟩ h (fun r_8 S_7 H locs hP hS h => ?_)
        refine z_if_ne (tgt := 58) hx hb dX5_isShortHop_37 (by decide) h (fun h => ?_) (fun h => ?_)
        · exact L58 x1 x2 _ _ _ ls hP hS (lv_sub hl [0, 1, 2] rfl) h
        · refine lv_iinc (v := (x2 + 1)) (lv' := [(2, .int (x2 + 1)), (0, .ref (q 67)), (1, .int x1), (3, .int x3), (4, .int x4)]) hx hb dX5_isShortHop_40 hl (k := 2) rfl rfl (by decide) rfl (fun ls hl => ?_)
          refine lv_aload_n hx hb dX5_isShortHop_43 rfl (lv_at hl 1 rfl) ?_
          refine z_get hx hb hU uU_X5 hown hK hP (p_67 hW) rfl rfl 0 (by decide) (hU _ uF_X5_12) rfl dX5_isShortHop_44 ?_
          refine lv_iload_n hx hb dX5_isShortHop_47 rfl (lv_at hl 3 rfl) ?_
          refine z_callV_i hx hb hml hown hU hK hN hP hS 1 (pW_68 hW).1 rfl rfl (zU_V uL_X5_81 uI_X6_tickAhead uS_X6_tickAhead uN_X6 uC_X6_tickAhead) yd_X6_tickAhead ⟨rfl, rfl⟩ ⟨Nat.le_of_ble_eq_true rfl, Nat.le_of_ble_eq_true rfl⟩ (As := [.int x3]) (fun o h9 => ctX6_tickAhead hq (pW_68 hW) h9) rfl hl.1 rfl (Nat.le_of_ble_eq_true rfl) dX5_isShortHop_48 ⟨Nat.zero_le _, Nat.zero_le _⟩ h (fun r_10 S_9 H locs hP hS h => ?_)
          refine lv_istore_n (lv' := [(3, .int r_10), (2, .int (x2 + 1)), (0, .ref (q 67)), (1, .int x1), (4, .int x4)]) hx hb dX5_isShortHop_51 rfl hl (by decide) rfl (fun ls hl => ?_)
          refine lv_iinc (v := (x4 + 1)) (lv' := [(4, .int (x4 + 1)), (3, .int r_10), (2, .int (x2 + 1)), (0, .ref (q 67)), (1, .int x1)]) hx hb dX5_isShortHop_52 hl (k := 4) rfl rfl (by decide) rfl (fun ls hl => ?_)
          refine lv_goto (tgt := 14) hx hb dX5_isShortHop_55 (by decide) ?_
          exact ih14 x1 (x2 + 1) r_10 (x4 + 1) _ _ _ ls hP hS (lv_sub hl [3, 4, 2, 1, 0] rfl) h
  refine lv_iconst (v := 1) hx hb dX5_isShortHop_0 rfl ?_
  refine lv_istore_n (lv' := [(2, .int 1), (0, .ref (q 67)), (1, .int a1)]) hx hb dX5_isShortHop_1 rfl hl (by decide) rfl (fun ls hl => ?_)
  refine lv_aload_n hx hb dX5_isShortHop_2 rfl (lv_at hl 1 rfl) ?_
  refine z_get hx hb hU uU_X5 hown hK hP (p_67 hW) rfl rfl 0 (by decide) (hU _ uF_X5_12) rfl dX5_isShortHop_3 ?_
  refine lv_iload_n hx hb dX5_isShortHop_6 rfl (lv_at hl 2 rfl) ?_
  refine z_callV_i hx hb hml hown hU hK hN hP hS 1 (pW_68 hW).1 rfl rfl (zU_V uL_X5_81 uI_X6_tickAhead uS_X6_tickAhead uN_X6 uC_X6_tickAhead) yd_X6_tickAhead ⟨rfl, rfl⟩ ⟨Nat.le_of_ble_eq_true rfl, Nat.le_of_ble_eq_true rfl⟩ (As := [.int a1]) (fun o h9 => ctX6_tickAhead hq (pW_68 hW) h9) rfl hl.1 rfl (Nat.le_of_ble_eq_true rfl) dX5_isShortHop_7 ⟨Nat.zero_le _, Nat.zero_le _⟩ h (fun r_12 S_11 H locs hP hS h => ?_)
  refine lv_istore_n (lv' := [(3, .int r_12), (2, .int 1), (0, .ref (q 67)), (1, .int a1)]) hx hb dX5_isShortHop_10 rfl hl (by decide) rfl (fun ls hl => ?_)
  refine lv_iconst (v := 1) hx hb dX5_isShortHop_11 rfl ?_
  refine lv_istore (lv' := [(4, .int 1), (3, .int r_12), (2, .int 1), (0, .ref (q 67)), (1, .int a1)]) hx hb dX5_isShortHop_12 hl (by decide) rfl (fun ls hl => ?_)
  exact L14 zF a1 1 r_12 1 _ _ _ ls hP hS (lv_sub hl [3, 4, 2, 1, 0] rfl) h

def fX5_isSound (a1 : Int32) (S : zT) : Option (Int32 × zT) :=
  zbi (fX2_at 79 256 a1 S) fun r_2 S_1 =>
  (if r_2 = 1 then some (1, S_1) else some (0, S_1))
abbrev rmX5_isSound : Room := { frames := 1, cells := 0, slots := 0, locals := 21 }
theorem yd_X5_isSound : yX5_isSound.cls = RX5 ∧ yX5_isSound.cls ≠ "java/lang/invoke/MethodHandle" ∧ yX5_isSound.cls ≠ "java/lang/invoke/VarHandle" ∧ (parseMethodDescriptor yX5_isSound.desc).map (fun d => d.parameters.length) = some 1 := by decide +kernel
set_option maxRecDepth 100000 in
set_option maxHeartbeats 4000000 in
theorem ctX5_isSound {l : Launch} {dC : Nat → ClassId} {dI : Nat → Nat → Nat} {cI : ClassId × ClassId} {cW : List zSh} {q : Nat → Nat} (hq : zI cW q) (hW : zIs cI cW) {a1 : Int32} {S : zT} {o : Int32 × zT} (h : fX5_isSound a1 S = some o) : zCi l dC dI cI cW q yX5_isSound (Cond.code yX5_isSound cX5_isSound 2 (some .boolean) :: zU) rmX5_isSound [.ref (q 67), .int a1] S o := by
  refine zMet_i (lv := [(0, .ref (q 67)), (1, .int a1)]) (by decide) (Nat.le_of_ble_eq_true rfl) rfl ?_
  intro p e s m args below meth c Q hx hb hml hr hU hown hlocks hK hN hP hS ls hl hQ
  replace hown : s.vm.findClass RX5 = some m.cls := hown
  unfold fX5_isSound at h
  refine lv_aload_n hx hb dX5_isSound_0 rfl (lv_at hl 0 rfl) ?_
  refine z_get hx hb hU uU_X5 hown hK hP (p_67 hW) rfl rfl 3 (by decide) (hU _ uF_X5_30) rfl dX5_isSound_1 ?_
  refine lv_iload_n hx hb dX5_isSound_4 rfl (lv_at hl 1 rfl) ?_
  refine z_callV_i hx hb hml hown hU hK hN hP hS 1 (pR_79 hW).1 rfl rfl (zU_V uL_X5_70 uI_X2_at uS_X2_at uN_X2 uC_X2_at) yd_X2_at ⟨rfl, rfl⟩ ⟨Nat.le_of_ble_eq_true rfl, Nat.le_of_ble_eq_true rfl⟩ (As := [.int a1]) (fun o h9 => ctX2_at hq (pR_79 hW) h9) rfl hl.1 rfl (Nat.le_of_ble_eq_true rfl) dX5_isSound_5 ⟨Nat.zero_le _, Nat.zero_le _⟩ h (fun r_2 S_1 H locs hP hS h => ?_)
  refine lv_iconst (v := 1) hx hb dX5_isSound_8 rfl ?_
  refine z_icmp_ne (tgt := 16) hx hb dX5_isSound_9 (by decide) h (fun h => ?_) (fun h => ?_)
  · refine lv_iconst (v := 0) hx hb dX5_isSound_16 rfl ?_
    exact z_zretC hx hb hlocks hP hS hQ hr dX5_isSound_17 (Or.inl rfl) h
  · refine lv_iconst (v := 1) hx hb dX5_isSound_12 rfl ?_
    refine lv_goto (tgt := 17) hx hb dX5_isSound_13 (by decide) ?_
    exact z_zretC hx hb hlocks hP hS hQ hr dX5_isSound_17 (Or.inr rfl) h

def fX5_fitsKind (a1 : Int32) (S : zT) : Option (Int32 × zT) :=
  zbi (fX6_fullSet 68 S) fun r_2 S_1 =>
  (if (S_1.1 68 1) = 2 then (if (a1 &&& (85 &&& (zshr r_2 1))) = ((zshr a1 1) &&& (85 &&& (zshr r_2 1))) then some (1, S_1) else some (0, S_1)) else some (1, S_1))
abbrev rmX5_fitsKind : Room := { frames := 1, cells := 0, slots := 0, locals := 20 }
theorem yd_X5_fitsKind : yX5_fitsKind.cls = RX5 ∧ yX5_fitsKind.cls ≠ "java/lang/invoke/MethodHandle" ∧ yX5_fitsKind.cls ≠ "java/lang/invoke/VarHandle" ∧ (parseMethodDescriptor yX5_fitsKind.desc).map (fun d => d.parameters.length) = some 1 := by decide +kernel
set_option maxRecDepth 100000 in
set_option maxHeartbeats 4000000 in
theorem ctX5_fitsKind {l : Launch} {dC : Nat → ClassId} {dI : Nat → Nat → Nat} {cI : ClassId × ClassId} {cW : List zSh} {q : Nat → Nat} (hq : zI cW q) (hW : zIs cI cW) {a1 : Int32} {S : zT} {o : Int32 × zT} (h : fX5_fitsKind a1 S = some o) : zCi l dC dI cI cW q yX5_fitsKind (Cond.code yX5_fitsKind cX5_fitsKind 3 (some .boolean) :: zU) rmX5_fitsKind [.ref (q 67), .int a1] S o := by
  refine zMet_i (lv := [(0, .ref (q 67)), (1, .int a1)]) (by decide) (Nat.le_of_ble_eq_true rfl) rfl ?_
  intro p e s m args below meth c Q hx hb hml hr hU hown hlocks hK hN hP hS ls hl hQ
  replace hown : s.vm.findClass RX5 = some m.cls := hown
  unfold fX5_fitsKind at h
  refine lv_bipush (v := 85) hx hb dX5_fitsKind_0 rfl ?_
  refine lv_aload_n hx hb dX5_fitsKind_2 rfl (lv_at hl 0 rfl) ?_
  refine z_get hx hb hU uU_X5 hown hK hP (p_67 hW) rfl rfl 0 (by decide) (hU _ uF_X5_12) rfl dX5_fitsKind_3 ?_
  refine z_callV_i hx hb hml hown hU hK hN hP hS 0 (pW_68 hW).1 rfl rfl (zU_V uL_X5_58 uI_X6_fullSet uS_X6_fullSet uN_X6 uC_X6_fullSet) yd_X6_fullSet ⟨rfl, rfl⟩ ⟨Nat.le_of_ble_eq_true rfl, Nat.le_of_ble_eq_true rfl⟩ (As := []) (fun o h9 => ctX6_fullSet hq (pW_68 hW) h9) rfl hl.1 rfl (Nat.le_of_ble_eq_true rfl) dX5_fitsKind_6 ⟨Nat.zero_le _, Nat.zero_le _⟩ h (fun r_2 S_1 H locs hP hS h => ?_)
  refine lv_iconst (v := 1) hx hb dX5_fitsKind_9 rfl ?_
  refine lv_ishr hx hb dX5_fitsKind_10 ?_
  refine lv_iand hx hb dX5_fitsKind_11 ?_
  refine lv_istore_n (lv' := [(2, .int (85 &&& (zshr r_2 1))), (0, .ref (q 67)), (1, .int a1)]) hx hb dX5_fitsKind_12 rfl hl (by decide) rfl (fun ls hl => ?_)
  refine lv_aload_n hx hb dX5_fitsKind_13 rfl (lv_at hl 1 rfl) ?_
  refine z_get hx hb hU uU_X5 hown hK hP (p_67 hW) rfl rfl 0 (by decide) (hU _ uF_X5_12) rfl dX5_fitsKind_14 ?_
  refine z_get hx hb hU uU_X6 hown hK hP (pW_68 hW).1 rfl rfl 1 (by decide) (hU _ uF_X5_117) rfl dX5_fitsKind_17 ?_
  refine lv_iconst (v := 2) hx hb dX5_fitsKind_20 rfl ?_
  refine z_icmp_ne (tgt := 35) hx hb dX5_fitsKind_21 (by decide) h (fun h => ?_) (fun h => ?_)
  · refine lv_iconst (v := 1) hx hb dX5_fitsKind_35 rfl ?_
    refine lv_goto (tgt := 40) hx hb dX5_fitsKind_36 (by decide) ?_
    exact z_zretC hx hb hlocks hP hS hQ hr dX5_fitsKind_40 (Or.inr rfl) h
  · refine lv_iload_n hx hb dX5_fitsKind_24 rfl (lv_at hl 2 rfl) ?_
    refine lv_iload_n hx hb dX5_fitsKind_25 rfl (lv_at hl 0 rfl) ?_
    refine lv_iand hx hb dX5_fitsKind_26 ?_
    refine lv_iload_n hx hb dX5_fitsKind_27 rfl (lv_at hl 2 rfl) ?_
    refine lv_iconst (v := 1) hx hb dX5_fitsKind_28 rfl ?_
    refine lv_ishr hx hb dX5_fitsKind_29 ?_
    refine lv_iload_n hx hb dX5_fitsKind_30 rfl (lv_at hl 0 rfl) ?_
    refine lv_iand hx hb dX5_fitsKind_31 ?_
    refine z_icmp_ne (tgt := 39) hx hb dX5_fitsKind_32 (by decide) h (fun h => ?_) (fun h => ?_)
    · refine lv_iconst (v := 0) hx hb dX5_fitsKind_39 rfl ?_
      exact z_zretC hx hb hlocks hP hS hQ hr dX5_fitsKind_40 (Or.inl rfl) h
    · refine lv_iconst (v := 1) hx hb dX5_fitsKind_35 rfl ?_
      refine lv_goto (tgt := 40) hx hb dX5_fitsKind_36 (by decide) ?_
      exact z_zretC hx hb hlocks hP hS hQ hr dX5_fitsKind_40 (Or.inr rfl) h

def fX1_drop (b : Nat) (S : zT) : Option zT :=
  zlet (zsl S b 0 0) fun S_1 =>
  zlet (zsl S_1 b 1 0) fun S_2 =>
  some S_2
abbrev rmX1_drop : Room := { frames := 0, cells := 0, slots := 0, locals := 0 }
theorem yd_X1_drop : yX1_drop.cls = RX1 ∧ yX1_drop.cls ≠ "java/lang/invoke/MethodHandle" ∧ yX1_drop.cls ≠ "java/lang/invoke/VarHandle" ∧ (parseMethodDescriptor yX1_drop.desc).map (fun d => d.parameters.length) = some 0 := by decide +kernel
set_option maxRecDepth 100000 in
set_option maxHeartbeats 4000000 in
theorem ctX1_drop {l : Launch} {dC : Nat → ClassId} {dI : Nat → Nat → Nat} {cI : ClassId × ClassId} {cW : List zSh} {q : Nat → Nat} (hq : zI cW q) {b : Nat} (hb0 : isRat cI cW b) {S : zT} {o : zT} (h : fX1_drop b S = some o) : zCv l dC dI cI cW q yX1_drop (Cond.code yX1_drop cX1_drop 1 none :: zU) rmX1_drop [.ref (q b)] S o := by
  refine zMet_v (lv := [(0, .ref (q b))]) (by decide) (Nat.le_of_ble_eq_true rfl) rfl ?_
  intro p e s m args below meth c Q hx hb hml hr hU hown hlocks hK hN hP hS ls hl hQ
  replace hown : s.vm.findClass RX1 = some m.cls := hown
  unfold fX1_drop at h
  refine lv_aload_n hx hb dX1_drop_0 rfl (lv_at hl 0 rfl) ?_
  refine lv_lconst (v := 0) hx hb dX1_drop_1 rfl ?_
  refine z_putl hx hb hU uU_X1 tyX1 tyX1_ok nmX1 hown hq hK hP hS hb0 rfl rfl 0 (by decide) (hU _ uF_X1_7) rfl rfl rfl (Nat.le_of_ble_eq_true rfl) rfl dX1_drop_2 h (fun S_1 H locs hP hS h => ?_)
  refine lv_aload_n hx hb dX1_drop_5 rfl (lv_at hl 0 rfl) ?_
  refine lv_lconst (v := 0) hx hb dX1_drop_6 rfl ?_
  refine z_putl hx hb hU uU_X1 tyX1 tyX1_ok nmX1 hown hq hK hP hS hb0 rfl rfl 1 (by decide) (hU _ uF_X1_13) rfl rfl rfl (Nat.le_of_ble_eq_true rfl) rfl dX1_drop_7 h (fun S_2 H locs hP hS h => ?_)
  exact z_vret hx hb hlocks hP hS hQ hr dX1_drop_10 h

def fX4_empty (S : zT) : Option zT :=
  zlet (zsi S 81 4 0) fun S_1 =>
  zlet (zsi S_1 81 5 0) fun S_2 =>
  zbv (fX1_drop 90 S_2) fun S_3 =>
  zbv (fX1_drop 91 S_3) fun S_4 =>
  some S_4
abbrev rmX4_empty : Room := { frames := 1, cells := 0, slots := 0, locals := 20 }
theorem yd_X4_empty : yX4_empty.cls = RX4 ∧ yX4_empty.cls ≠ "java/lang/invoke/MethodHandle" ∧ yX4_empty.cls ≠ "java/lang/invoke/VarHandle" ∧ (parseMethodDescriptor yX4_empty.desc).map (fun d => d.parameters.length) = some 0 := by decide +kernel
set_option maxRecDepth 100000 in
set_option maxHeartbeats 4000000 in
theorem ctX4_empty {l : Launch} {dC : Nat → ClassId} {dI : Nat → Nat → Nat} {cI : ClassId × ClassId} {cW : List zSh} {q : Nat → Nat} (hq : zI cW q) (hW : zIs cI cW) {S : zT} {o : zT} (h : fX4_empty S = some o) : zCv l dC dI cI cW q yX4_empty (Cond.code yX4_empty cX4_empty 1 none :: zU) rmX4_empty [.ref (q 81)] S o := by
  refine zMet_v (lv := [(0, .ref (q 81))]) (by decide) (Nat.le_of_ble_eq_true rfl) rfl ?_
  intro p e s m args below meth c Q hx hb hml hr hU hown hlocks hK hN hP hS ls hl hQ
  replace hown : s.vm.findClass RX4 = some m.cls := hown
  unfold fX4_empty at h
  refine lv_aload_n hx hb dX4_empty_0 rfl (lv_at hl 0 rfl) ?_
  refine lv_iconst (v := 0) hx hb dX4_empty_1 rfl ?_
  refine z_puti hx hb hU uU_X4 tyX4 tyX4_ok nmX4 hown hq hK hP hS (p_81 hW) rfl rfl 4 (by decide) (hU _ uF_X4_42) rfl rfl rfl (Nat.le_of_ble_eq_true rfl) rfl dX4_empty_2 h (fun S_1 H locs hP hS h => ?_)
  refine lv_aload_n hx hb dX4_empty_5 rfl (lv_at hl 0 rfl) ?_
  refine lv_iconst (v := 0) hx hb dX4_empty_6 rfl ?_
  refine z_puti hx hb hU uU_X4 tyX4 tyX4_ok nmX4 hown hq hK hP hS (p_81 hW) rfl rfl 5 (by decide) (hU _ uF_X4_46) rfl rfl rfl (Nat.le_of_ble_eq_true rfl) rfl dX4_empty_7 h (fun S_2 H locs hP hS h => ?_)
  refine lv_aload_n hx hb dX4_empty_10 rfl (lv_at hl 0 rfl) ?_
  refine z_get hx hb hU uU_X4 hown hK hP (p_81 hW) rfl rfl 6 (by decide) (hU _ uF_X4_32) rfl dX4_empty_11 ?_
  refine z_callV_v hx hb hml hown hU hK hN hP hS 0 (pT_90 hW) rfl rfl (zU_V uL_X4_49 uI_X1_drop uS_X1_drop uN_X1 uC_X1_drop) yd_X1_drop ⟨rfl, rfl⟩ ⟨Nat.le_of_ble_eq_true rfl, Nat.le_of_ble_eq_true rfl⟩ (As := []) (fun o h9 => ctX1_drop hq (pT_90 hW) h9) rfl hl.1 rfl (Nat.le_of_ble_eq_true rfl) dX4_empty_14 ⟨Nat.zero_le _, Nat.zero_le _⟩ h (fun S_3 H locs hP hS h => ?_)
  refine lv_aload_n hx hb dX4_empty_17 rfl (lv_at hl 0 rfl) ?_
  refine z_get hx hb hU uU_X4 hown hK hP (p_81 hW) rfl rfl 7 (by decide) (hU _ uF_X4_36) rfl dX4_empty_18 ?_
  refine z_callV_v hx hb hml hown hU hK hN hP hS 0 (pT_91 hW) rfl rfl (zU_V uL_X4_49 uI_X1_drop uS_X1_drop uN_X1 uC_X1_drop) yd_X1_drop ⟨rfl, rfl⟩ ⟨Nat.le_of_ble_eq_true rfl, Nat.le_of_ble_eq_true rfl⟩ (As := []) (fun o h9 => ctX1_drop hq (pT_91 hW) h9) rfl hl.1 rfl (Nat.le_of_ble_eq_true rfl) dX4_empty_21 ⟨Nat.zero_le _, Nat.zero_le _⟩ h (fun S_4 H locs hP hS h => ?_)
  exact z_vret hx hb hlocks hP hS hQ hr dX4_empty_24 h

def fX1_lowerTo_25 (b : Nat) (x1 : Int64) (x3 : Int64) (S : zT) : Option zT :=
  zlet (zsl S b 0 x1) fun S_1 =>
  zlet (zsl S_1 b 1 x3) fun S_2 =>
  some S_2
def fX1_lowerTo (b : Nat) (a1 : Int64) (a3 : Int64) (S : zT) : Option zT :=
  (if (lg_cmp (S.2 b 1) 0) = 0 then (fX1_lowerTo_25 b) a1 a3 S else (if (lg_cmp ((S.2 b 0) * a3) (a1 * (S.2 b 1))) ≤ 0 then some S else (fX1_lowerTo_25 b) a1 a3 S))
abbrev rmX1_lowerTo : Room := { frames := 0, cells := 0, slots := 0, locals := 0 }
theorem yd_X1_lowerTo : yX1_lowerTo.cls = RX1 ∧ yX1_lowerTo.cls ≠ "java/lang/invoke/MethodHandle" ∧ yX1_lowerTo.cls ≠ "java/lang/invoke/VarHandle" ∧ (parseMethodDescriptor yX1_lowerTo.desc).map (fun d => d.parameters.length) = some 2 := by decide +kernel
set_option maxRecDepth 100000 in
set_option maxHeartbeats 4000000 in
theorem ctX1_lowerTo {l : Launch} {dC : Nat → ClassId} {dI : Nat → Nat → Nat} {cI : ClassId × ClassId} {cW : List zSh} {q : Nat → Nat} (hq : zI cW q) {b : Nat} (hb0 : isRat cI cW b) {a1 : Int64} {a3 : Int64} {S : zT} {o : zT} (h : fX1_lowerTo b a1 a3 S = some o) : zCv l dC dI cI cW q yX1_lowerTo (Cond.code yX1_lowerTo cX1_lowerTo 5 none :: zU) rmX1_lowerTo [.ref (q b), .long a1, .long a3] S o := by
  refine zMet_v (lv := [(0, .ref (q b)), (1, .long a1), (3, .long a3)]) (by decide) (Nat.le_of_ble_eq_true rfl) rfl ?_
  intro p e s m args below meth c Q hx hb hml hr hU hown hlocks hK hN hP hS ls hl hQ
  replace hown : s.vm.findClass RX1 = some m.cls := hown
  unfold fX1_lowerTo at h
  have L25 : ∀ (x1 : Int64) (x3 : Int64) (S : zT) (H : Heap) (locs : List Loc) (ls : Array Slot), va_P (dC, dI) vwCl (zWd cI cW q S) H → va_S (zA cW q) s.heap H locs → lv_has ls 5 [(0, .ref (q b)), (1, .long x1), (3, .long x3)] → (fX1_lowerTo_25 b) x1 x3 S = some o → W p l e rmX1_lowerTo s m args below meth c H locs 0 0 Q (F0 m 25 ls []) := by
    intro x1 x3 S H locs ls hP hS hl h
    unfold fX1_lowerTo_25 at h
    refine lv_aload_n hx hb dX1_lowerTo_25 rfl (lv_at hl 0 rfl) ?_
    refine lv_lload_n hx hb dX1_lowerTo_26 rfl (lv_at hl 1 rfl) ?_
    refine z_putl hx hb hU uU_X1 tyX1 tyX1_ok nmX1 hown hq hK hP hS hb0 rfl rfl 0 (by decide) (hU _ uF_X1_7) rfl rfl rfl (Nat.le_of_ble_eq_true rfl) rfl dX1_lowerTo_27 h (fun S_1 H locs hP hS h => ?_)
    refine lv_aload_n hx hb dX1_lowerTo_30 rfl (lv_at hl 0 rfl) ?_
    refine lv_lload_n hx hb dX1_lowerTo_31 rfl (lv_at hl 2 rfl) ?_
    refine z_putl hx hb hU uU_X1 tyX1 tyX1_ok nmX1 hown hq hK hP hS hb0 rfl rfl 1 (by decide) (hU _ uF_X1_13) rfl rfl rfl (Nat.le_of_ble_eq_true rfl) rfl dX1_lowerTo_32 h (fun S_2 H locs hP hS h => ?_)
    exact z_vret hx hb hlocks hP hS hQ hr dX1_lowerTo_35 h
  refine lv_aload_n hx hb dX1_lowerTo_0 rfl (lv_at hl 0 rfl) ?_
  refine z_get hx hb hU uU_X1 hown hK hP hb0 rfl rfl 1 (by decide) (hU _ uF_X1_13) rfl dX1_lowerTo_1 ?_
  refine lv_lconst (v := 0) hx hb dX1_lowerTo_4 rfl ?_
  refine W.lcmp hx hb dX1_lowerTo_5 ?_
  refine z_if_eq (tgt := 25) hx hb dX1_lowerTo_6 (by decide) h (fun h => ?_) (fun h => ?_)
  · exact L25 a1 a3 _ _ _ ls hP hS (lv_sub hl [0, 1, 2] rfl) h
  · refine lv_aload_n hx hb dX1_lowerTo_9 rfl (lv_at hl 0 rfl) ?_
    refine z_get hx hb hU uU_X1 hown hK hP hb0 rfl rfl 0 (by decide) (hU _ uF_X1_7) rfl dX1_lowerTo_10 ?_
    refine lv_lload_n hx hb dX1_lowerTo_13 rfl (lv_at hl 2 rfl) ?_
    refine lv_lmul hx hb dX1_lowerTo_14 ?_
    refine lv_lload_n hx hb dX1_lowerTo_15 rfl (lv_at hl 1 rfl) ?_
    refine lv_aload_n hx hb dX1_lowerTo_16 rfl (lv_at hl 0 rfl) ?_
    refine z_get hx hb hU uU_X1 hown hK hP hb0 rfl rfl 1 (by decide) (hU _ uF_X1_13) rfl dX1_lowerTo_17 ?_
    refine lv_lmul hx hb dX1_lowerTo_20 ?_
    refine W.lcmp hx hb dX1_lowerTo_21 ?_
    refine z_if_le (tgt := 35) hx hb dX1_lowerTo_22 (by decide) h (fun h => ?_) (fun h => ?_)
    · exact z_vret hx hb hlocks hP hS hQ hr dX1_lowerTo_35 h
    · exact L25 a1 a3 _ _ _ ls hP hS (lv_sub hl [0, 1, 2] rfl) h

def fX1_raiseTo_25 (b : Nat) (x1 : Int64) (x3 : Int64) (S : zT) : Option zT :=
  zlet (zsl S b 0 x1) fun S_1 =>
  zlet (zsl S_1 b 1 x3) fun S_2 =>
  some S_2
def fX1_raiseTo (b : Nat) (a1 : Int64) (a3 : Int64) (S : zT) : Option zT :=
  (if (lg_cmp (S.2 b 1) 0) = 0 then (fX1_raiseTo_25 b) a1 a3 S else (if 0 ≤ (lg_cmp ((S.2 b 0) * a3) (a1 * (S.2 b 1))) then some S else (fX1_raiseTo_25 b) a1 a3 S))
abbrev rmX1_raiseTo : Room := { frames := 0, cells := 0, slots := 0, locals := 0 }
theorem yd_X1_raiseTo : yX1_raiseTo.cls = RX1 ∧ yX1_raiseTo.cls ≠ "java/lang/invoke/MethodHandle" ∧ yX1_raiseTo.cls ≠ "java/lang/invoke/VarHandle" ∧ (parseMethodDescriptor yX1_raiseTo.desc).map (fun d => d.parameters.length) = some 2 := by decide +kernel
set_option maxRecDepth 100000 in
set_option maxHeartbeats 4000000 in
theorem ctX1_raiseTo {l : Launch} {dC : Nat → ClassId} {dI : Nat → Nat → Nat} {cI : ClassId × ClassId} {cW : List zSh} {q : Nat → Nat} (hq : zI cW q) {b : Nat} (hb0 : isRat cI cW b) {a1 : Int64} {a3 : Int64} {S : zT} {o : zT} (h : fX1_raiseTo b a1 a3 S = some o) : zCv l dC dI cI cW q yX1_raiseTo (Cond.code yX1_raiseTo cX1_raiseTo 5 none :: zU) rmX1_raiseTo [.ref (q b), .long a1, .long a3] S o := by
  refine zMet_v (lv := [(0, .ref (q b)), (1, .long a1), (3, .long a3)]) (by decide) (Nat.le_of_ble_eq_true rfl) rfl ?_
  intro p e s m args below meth c Q hx hb hml hr hU hown hlocks hK hN hP hS ls hl hQ
  replace hown : s.vm.findClass RX1 = some m.cls := hown
  unfold fX1_raiseTo at h
  have L25 : ∀ (x1 : Int64) (x3 : Int64) (S : zT) (H : Heap) (locs : List Loc) (ls : Array Slot), va_P (dC, dI) vwCl (zWd cI cW q S) H → va_S (zA cW q) s.heap H locs → lv_has ls 5 [(0, .ref (q b)), (1, .long x1), (3, .long x3)] → (fX1_raiseTo_25 b) x1 x3 S = some o → W p l e rmX1_raiseTo s m args below meth c H locs 0 0 Q (F0 m 25 ls []) := by
    intro x1 x3 S H locs ls hP hS hl h
    unfold fX1_raiseTo_25 at h
    refine lv_aload_n hx hb dX1_raiseTo_25 rfl (lv_at hl 0 rfl) ?_
    refine lv_lload_n hx hb dX1_raiseTo_26 rfl (lv_at hl 1 rfl) ?_
    refine z_putl hx hb hU uU_X1 tyX1 tyX1_ok nmX1 hown hq hK hP hS hb0 rfl rfl 0 (by decide) (hU _ uF_X1_7) rfl rfl rfl (Nat.le_of_ble_eq_true rfl) rfl dX1_raiseTo_27 h (fun S_1 H locs hP hS h => ?_)
    refine lv_aload_n hx hb dX1_raiseTo_30 rfl (lv_at hl 0 rfl) ?_
    refine lv_lload_n hx hb dX1_raiseTo_31 rfl (lv_at hl 2 rfl) ?_
    refine z_putl hx hb hU uU_X1 tyX1 tyX1_ok nmX1 hown hq hK hP hS hb0 rfl rfl 1 (by decide) (hU _ uF_X1_13) rfl rfl rfl (Nat.le_of_ble_eq_true rfl) rfl dX1_raiseTo_32 h (fun S_2 H locs hP hS h => ?_)
    exact z_vret hx hb hlocks hP hS hQ hr dX1_raiseTo_35 h
  refine lv_aload_n hx hb dX1_raiseTo_0 rfl (lv_at hl 0 rfl) ?_
  refine z_get hx hb hU uU_X1 hown hK hP hb0 rfl rfl 1 (by decide) (hU _ uF_X1_13) rfl dX1_raiseTo_1 ?_
  refine lv_lconst (v := 0) hx hb dX1_raiseTo_4 rfl ?_
  refine W.lcmp hx hb dX1_raiseTo_5 ?_
  refine z_if_eq (tgt := 25) hx hb dX1_raiseTo_6 (by decide) h (fun h => ?_) (fun h => ?_)
  · exact L25 a1 a3 _ _ _ ls hP hS (lv_sub hl [0, 1, 2] rfl) h
  · refine lv_aload_n hx hb dX1_raiseTo_9 rfl (lv_at hl 0 rfl) ?_
    refine z_get hx hb hU uU_X1 hown hK hP hb0 rfl rfl 0 (by decide) (hU _ uF_X1_7) rfl dX1_raiseTo_10 ?_
    refine lv_lload_n hx hb dX1_raiseTo_13 rfl (lv_at hl 2 rfl) ?_
    refine lv_lmul hx hb dX1_raiseTo_14 ?_
    refine lv_lload_n hx hb dX1_raiseTo_15 rfl (lv_at hl 1 rfl) ?_
    refine lv_aload_n hx hb dX1_raiseTo_16 rfl (lv_at hl 0 rfl) ?_
    refine z_get hx hb hU uU_X1 hown hK hP hb0 rfl rfl 1 (by decide) (hU _ uF_X1_13) rfl dX1_raiseTo_17 ?_
    refine lv_lmul hx hb dX1_raiseTo_20 ?_
    refine W.lcmp hx hb dX1_raiseTo_21 ?_
    refine z_if_ge (tgt := 35) hx hb dX1_raiseTo_22 (by decide) h (fun h => ?_) (fun h => ?_)
    · exact z_vret hx hb hlocks hP hS hQ hr dX1_raiseTo_35 h
    · exact L25 a1 a3 _ _ _ ls hP hS (lv_sub hl [0, 1, 2] rfl) h

def fX4_add (a1 : Int32) (a2 : Int32) (S : zT) : Option zT :=
  (if 0 ≤ a1 then (if a1 ≤ 0 then zbv (fX1_lowerTo 90 ((a2).toInt64) 1 S) fun S_1 =>
  zbv (fX1_raiseTo 91 ((a2).toInt64) 1 S_1) fun S_2 =>
  some S_2 else zbv (fX2_put 86 8 (S.1 81 5) a1 S) fun S_3 =>
  zbv (fX2_put 88 8 (S_3.1 81 5) a2 S_3) fun S_4 =>
  zlet (zsi S_4 81 5 ((S_4.1 81 5) + 1)) fun S_5 =>
  some S_5) else zbv (fX2_put 82 8 (S.1 81 4) a1 S) fun S_6 =>
  zbv (fX2_put 84 8 (S_6.1 81 4) a2 S_6) fun S_7 =>
  zlet (zsi S_7 81 4 ((S_7.1 81 4) + 1)) fun S_8 =>
  some S_8)
abbrev rmX4_add : Room := { frames := 1, cells := 0, slots := 0, locals := 24 }
theorem yd_X4_add : yX4_add.cls = RX4 ∧ yX4_add.cls ≠ "java/lang/invoke/MethodHandle" ∧ yX4_add.cls ≠ "java/lang/invoke/VarHandle" ∧ (parseMethodDescriptor yX4_add.desc).map (fun d => d.parameters.length) = some 2 := by decide +kernel
set_option maxRecDepth 100000 in
set_option maxHeartbeats 4000000 in
theorem ctX4_add {l : Launch} {dC : Nat → ClassId} {dI : Nat → Nat → Nat} {cI : ClassId × ClassId} {cW : List zSh} {q : Nat → Nat} (hq : zI cW q) (hW : zIs cI cW) {a1 : Int32} {a2 : Int32} {S : zT} {o : zT} (h : fX4_add a1 a2 S = some o) : zCv l dC dI cI cW q yX4_add (Cond.code yX4_add cX4_add 3 none :: zU) rmX4_add [.ref (q 81), .int a1, .int a2] S o := by
  refine zMet_v (lv := [(0, .ref (q 81)), (1, .int a1), (2, .int a2)]) (by decide) (Nat.le_of_ble_eq_true rfl) rfl ?_
  intro p e s m args below meth c Q hx hb hml hr hU hown hlocks hK hN hP hS ls hl hQ
  replace hown : s.vm.findClass RX4 = some m.cls := hown
  unfold fX4_add at h
  refine lv_iload_n hx hb dX4_add_0 rfl (lv_at hl 1 rfl) ?_
  refine z_if_ge (tgt := 41) hx hb dX4_add_1 (by decide) h (fun h => ?_) (fun h => ?_)
  · refine lv_iload_n hx hb dX4_add_41 rfl (lv_at hl 1 rfl) ?_
    refine z_if_le (tgt := 82) hx hb dX4_add_42 (by decide) h (fun h => ?_) (fun h => ?_)
    · refine lv_aload_n hx hb dX4_add_82 rfl (lv_at hl 0 rfl) ?_
      refine z_get hx hb hU uU_X4 hown hK hP (p_81 hW) rfl rfl 6 (by decide) (hU _ uF_X4_32) rfl dX4_add_83 ?_
      refine lv_iload_n hx hb dX4_add_86 rfl (lv_at hl 2 rfl) ?_
      refine lv_i2l (v := (a2).toInt64) hx hb dX4_add_87 rfl ?_
      refine lv_lconst (v := 1) hx hb dX4_add_88 rfl ?_
      refine z_callV_v hx hb hml hown hU hK hN hP hS 2 (pT_90 hW) rfl rfl (zU_V uL_X4_56 uI_X1_lowerTo uS_X1_lowerTo uN_X1 uC_X1_lowerTo) yd_X1_lowerTo ⟨rfl, rfl⟩ ⟨Nat.le_of_ble_eq_true rfl, Nat.le_of_ble_eq_true rfl⟩ (As := [.long (a2).toInt64, .long 1]) (fun o h9 => ctX1_lowerTo hq (pT_90 hW) h9) rfl hl.1 rfl (Nat.le_of_ble_eq_true rfl) dX4_add_89 ⟨Nat.zero_le _, Nat.zero_le _⟩ h (fun S_1 H locs hP hS h => ?_)
      refine lv_aload_n hx hb dX4_add_92 rfl (lv_at hl 0 rfl) ?_
      refine z_get hx hb hU uU_X4 hown hK hP (p_81 hW) rfl rfl 7 (by decide) (hU _ uF_X4_36) rfl dX4_add_93 ?_
      refine lv_iload_n hx hb dX4_add_96 rfl (lv_at hl 2 rfl) ?_
      refine lv_i2l (v := (a2).toInt64) hx hb dX4_add_97 rfl ?_
      refine lv_lconst (v := 1) hx hb dX4_add_98 rfl ?_
      refine z_callV_v hx hb hml hown hU hK hN hP hS 2 (pT_91 hW) rfl rfl (zU_V uL_X4_60 uI_X1_raiseTo uS_X1_raiseTo uN_X1 uC_X1_raiseTo) yd_X1_raiseTo ⟨rfl, rfl⟩ ⟨Nat.le_of_ble_eq_true rfl, Nat.le_of_ble_eq_true rfl⟩ (As := [.long (a2).toInt64, .long 1]) (fun o h9 => ctX1_raiseTo hq (pT_91 hW) h9) rfl hl.1 rfl (Nat.le_of_ble_eq_true rfl) dX4_add_99 ⟨Nat.zero_le _, Nat.zero_le _⟩ h (fun S_2 H locs hP hS h => ?_)
      exact z_vret hx hb hlocks hP hS hQ hr dX4_add_102 h
    · refine lv_aload_n hx hb dX4_add_45 rfl (lv_at hl 0 rfl) ?_
      refine z_get hx hb hU uU_X4 hown hK hP (p_81 hW) rfl rfl 2 (by decide) (hU _ uF_X4_23) rfl dX4_add_46 ?_
      refine lv_aload_n hx hb dX4_add_49 rfl (lv_at hl 0 rfl) ?_
      refine z_get hx hb hU uU_X4 hown hK hP (p_81 hW) rfl rfl 5 (by decide) (hU _ uF_X4_46) rfl dX4_add_50 ?_
      refine lv_iload_n hx hb dX4_add_53 rfl (lv_at hl 1 rfl) ?_
      refine z_callV_v hx hb hml hown hU hK hN hP hS 2 (pR_86 hW).1 rfl rfl (zU_V uL_X4_52 uI_X2_put uS_X2_put uN_X2 uC_X2_put) yd_X2_put ⟨rfl, rfl⟩ ⟨Nat.le_of_ble_eq_true rfl, Nat.le_of_ble_eq_true rfl⟩ (As := [.int (S.1 81 5), .int a1]) (fun o h9 => ctX2_put hq (pR_86 hW) h9) rfl hl.1 rfl (Nat.le_of_ble_eq_true rfl) dX4_add_54 ⟨Nat.zero_le _, Nat.zero_le _⟩ h (fun S_3 H locs hP hS h => ?_)
      refine lv_aload_n hx hb dX4_add_57 rfl (lv_at hl 0 rfl) ?_
      refine z_get hx hb hU uU_X4 hown hK hP (p_81 hW) rfl rfl 3 (by decide) (hU _ uF_X4_26) rfl dX4_add_58 ?_
      refine lv_aload_n hx hb dX4_add_61 rfl (lv_at hl 0 rfl) ?_
      refine z_get hx hb hU uU_X4 hown hK hP (p_81 hW) rfl rfl 5 (by decide) (hU _ uF_X4_46) rfl dX4_add_62 ?_
      refine lv_iload_n hx hb dX4_add_65 rfl (lv_at hl 2 rfl) ?_
      refine z_callV_v hx hb hml hown hU hK hN hP hS 2 (pR_88 hW).1 rfl rfl (zU_V uL_X4_52 uI_X2_put uS_X2_put uN_X2 uC_X2_put) yd_X2_put ⟨rfl, rfl⟩ ⟨Nat.le_of_ble_eq_true rfl, Nat.le_of_ble_eq_true rfl⟩ (As := [.int (S_3.1 81 5), .int a2]) (fun o h9 => ctX2_put hq (pR_88 hW) h9) rfl hl.1 rfl (Nat.le_of_ble_eq_true rfl) dX4_add_66 ⟨Nat.zero_le _, Nat.zero_le _⟩ h (fun S_4 H locs hP hS h => ?_)
      refine lv_aload_n hx hb dX4_add_69 rfl (lv_at hl 0 rfl) ?_
      refine lv_dup hx hb dX4_add_70 rfl ?_
      refine z_get hx hb hU uU_X4 hown hK hP (p_81 hW) rfl rfl 5 (by decide) (hU _ uF_X4_46) rfl dX4_add_71 ?_
      refine lv_iconst (v := 1) hx hb dX4_add_74 rfl ?_
      refine lv_iadd hx hb dX4_add_75 ?_
      refine z_puti hx hb hU uU_X4 tyX4 tyX4_ok nmX4 hown hq hK hP hS (p_81 hW) rfl rfl 5 (by decide) (hU _ uF_X4_46) rfl rfl rfl (Nat.le_of_ble_eq_true rfl) rfl dX4_add_76 h (fun S_5 H locs hP hS h => ?_)
      refine lv_goto (tgt := 102) hx hb dX4_add_79 (by decide) ?_
      exact z_vret hx hb hlocks hP hS hQ hr dX4_add_102 h
  · refine lv_aload_n hx hb dX4_add_4 rfl (lv_at hl 0 rfl) ?_
    refine z_get hx hb hU uU_X4 hown hK hP (p_81 hW) rfl rfl 0 (by decide) (hU _ uF_X4_14) rfl dX4_add_5 ?_
    refine lv_aload_n hx hb dX4_add_8 rfl (lv_at hl 0 rfl) ?_
    refine z_get hx hb hU uU_X4 hown hK hP (p_81 hW) rfl rfl 4 (by decide) (hU _ uF_X4_42) rfl dX4_add_9 ?_
    refine lv_iload_n hx hb dX4_add_12 rfl (lv_at hl 1 rfl) ?_
    refine z_callV_v hx hb hml hown hU hK hN hP hS 2 (pR_82 hW).1 rfl rfl (zU_V uL_X4_52 uI_X2_put uS_X2_put uN_X2 uC_X2_put) yd_X2_put ⟨rfl, rfl⟩ ⟨Nat.le_of_ble_eq_true rfl, Nat.le_of_ble_eq_true rfl⟩ (As := [.int (S.1 81 4), .int a1]) (fun o h9 => ctX2_put hq (pR_82 hW) h9) rfl hl.1 rfl (Nat.le_of_ble_eq_true rfl) dX4_add_13 ⟨Nat.zero_le _, Nat.zero_le _⟩ h (fun S_6 H locs hP hS h => ?_)
    refine lv_aload_n hx hb dX4_add_16 rfl (lv_at hl 0 rfl) ?_
    refine z_get hx hb hU uU_X4 hown hK hP (p_81 hW) rfl rfl 1 (by decide) (hU _ uF_X4_20) rfl dX4_add_17 ?_
    refine lv_aload_n hx hb dX4_add_20 rfl (lv_at hl 0 rfl) ?_
    refine z_get hx hb hU uU_X4 hown hK hP (p_81 hW) rfl rfl 4 (by decide) (hU _ uF_X4_42) rfl dX4_add_21 ?_
    refine lv_iload_n hx hb dX4_add_24 rfl (lv_at hl 2 rfl) ?_
    refine z_callV_v hx hb hml hown hU hK hN hP hS 2 (pR_84 hW).1 rfl rfl (zU_V uL_X4_52 uI_X2_put uS_X2_put uN_X2 uC_X2_put) yd_X2_put ⟨rfl, rfl⟩ ⟨Nat.le_of_ble_eq_true rfl, Nat.le_of_ble_eq_true rfl⟩ (As := [.int (S_6.1 81 4), .int a2]) (fun o h9 => ctX2_put hq (pR_84 hW) h9) rfl hl.1 rfl (Nat.le_of_ble_eq_true rfl) dX4_add_25 ⟨Nat.zero_le _, Nat.zero_le _⟩ h (fun S_7 H locs hP hS h => ?_)
    refine lv_aload_n hx hb dX4_add_28 rfl (lv_at hl 0 rfl) ?_
    refine lv_dup hx hb dX4_add_29 rfl ?_
    refine z_get hx hb hU uU_X4 hown hK hP (p_81 hW) rfl rfl 4 (by decide) (hU _ uF_X4_42) rfl dX4_add_30 ?_
    refine lv_iconst (v := 1) hx hb dX4_add_33 rfl ?_
    refine lv_iadd hx hb dX4_add_34 ?_
    refine z_puti hx hb hU uU_X4 tyX4 tyX4_ok nmX4 hown hq hK hP hS (p_81 hW) rfl rfl 4 (by decide) (hU _ uF_X4_42) rfl rfl rfl (Nat.le_of_ble_eq_true rfl) rfl dX4_add_35 h (fun S_8 H locs hP hS h => ?_)
    refine lv_goto (tgt := 102) hx hb dX4_add_38 (by decide) ?_
    exact z_vret hx hb hlocks hP hS hQ hr dX4_add_102 h

def fX5_gatherFeet_74 (k9 : Int32 → Int32 → zT → Option zT) (x1 : Int32) (x2 : Int32) (S : zT) : Option zT :=
  k9 x1 (x2 + 1) S
def fX5_gatherFeet_9 (rec : Int32 → Int32 → zT → Option zT) (x1 : Int32) (x2 : Int32) (S : zT) : Option zT :=
  (if (S.1 68 0) ≤ x2 then some S else zbi (fX6_isDown 68 x2 x1 S) fun r_2 S_1 =>
  (if r_2 = 0 then (fX5_gatherFeet_74 rec) x1 x2 S_1 else zbi (fX2_at (68 + 1) 8 x2 S_1) fun r_4 S_3 =>
  zbi (fX5_twiceY x2 x1 S_3) fun r_6 S_5 =>
  zbv (fX4_add (r_4 - (S_3.1 68 2)) (r_6 - (2 * (S_5.1 68 3))) S_5) fun S_7 =>
  (fX5_gatherFeet_74 rec) x1 x2 S_7))
def fX5_gatherFeet (a1 : Int32) (S : zT) : Option zT :=
  zbv (fX4_empty S) fun S_8 =>
  (zfix (fun _ _ _ => none) fX5_gatherFeet_9 zF) a1 0 S_8
abbrev rmX5_gatherFeet : Room := { frames := 2, cells := 0, slots := 0, locals := 46 }
theorem yd_X5_gatherFeet : yX5_gatherFeet.cls = RX5 ∧ yX5_gatherFeet.cls ≠ "java/lang/invoke/MethodHandle" ∧ yX5_gatherFeet.cls ≠ "java/lang/invoke/VarHandle" ∧ (parseMethodDescriptor yX5_gatherFeet.desc).map (fun d => d.parameters.length) = some 1 := by decide +kernel
set_option maxRecDepth 100000 in
set_option maxHeartbeats 4000000 in
theorem ctX5_gatherFeet {l : Launch} {dC : Nat → ClassId} {dI : Nat → Nat → Nat} {cI : ClassId × ClassId} {cW : List zSh} {q : Nat → Nat} (hq : zI cW q) (hW : zIs cI cW) {a1 : Int32} {S : zT} {o : zT} (h : fX5_gatherFeet a1 S = some o) : zCv l dC dI cI cW q yX5_gatherFeet (Cond.code yX5_gatherFeet cX5_gatherFeet 3 none :: zU) rmX5_gatherFeet [.ref (q 67), .int a1] S o := by
  refine zMet_v (lv := [(0, .ref (q 67)), (1, .int a1)]) (by decide) (Nat.le_of_ble_eq_true rfl) rfl ?_
  intro p e s m args below meth c Q hx hb hml hr hU hown hlocks hK hN hP hS ls hl hQ
  replace hown : s.vm.findClass RX5 = some m.cls := hown
  unfold fX5_gatherFeet at h
  have L9 : ∀ (n9 : Nat) (x1 : Int32) (x2 : Int32) (S : zT) (H : Heap) (locs : List Loc) (ls : Array Slot), va_P (dC, dI) vwCl (zWd cI cW q S) H → va_S (zA cW q) s.heap H locs → lv_has ls 3 [(0, .ref (q 67)), (1, .int x1), (2, .int x2)] → (zfix (fun _ _ _ => none) fX5_gatherFeet_9 n9) x1 x2 S = some o → W p l e rmX5_gatherFeet s m args below meth c H locs 0 0 Q (F0 m 9 ls []) := by
    intro n9
    induction n9 with
    | zero => intro x1 x2 S H locs ls hP hS hl h; exact zno (show (none : Option zT) = some o from h)
    | succ n9 ih9 =>
      intro x1 x2 S H locs ls hP hS hl h
      replace h : fX5_gatherFeet_9 (zfix (fun _ _ _ => none) fX5_gatherFeet_9 n9) x1 x2 S = some o := h
      unfold fX5_gatherFeet_9 at h
      have L74 : ∀ (x1 : Int32) (x2 : Int32) (S : zT) (H : Heap) (locs : List Loc) (ls : Array Slot), va_P (dC, dI) vwCl (zWd cI cW q S) H → va_S (zA cW q) s.heap H locs → lv_has ls 3 [(0, .ref (q 67)), (1, .int x1), (2, .int x2)] → (fX5_gatherFeet_74 (zfix (fun _ _ _ => none) fX5_gatherFeet_9 n9)) x1 x2 S = some o → W p l e rmX5_gatherFeet s m args below meth c H locs 0 0 Q (F0 m 74 ls []) := by
        intro x1 x2 S H locs ls hP hS hl h
        unfold fX5_gatherFeet_74 at h
        refine lv_iinc (v := (x2 + 1)) (lv' := [(2, .int (x2 + 1)), (0, .ref (q 67)), (1, .int x1)]) hx hb dX5_gatherFeet_74 hl (k := 2) rfl rfl (by decide) rfl (fun ls hl => ?_)
        refine lv_goto (tgt := 9) hx hb dX5_gatherFeet_77 (by decide) ?_
        exact ih9 x1 (x2 + 1) _ _ _ ls hP hS (lv_sub hl [1, 2, 0] rfl) h
      refine lv_iload_n hx hb dX5_gatherFeet_9 rfl (lv_at hl 2 rfl) ?_
      refine lv_aload_n hx hb dX5_gatherFeet_10 rfl (lv_at hl 0 rfl) ?_
      refine z_get hx hb hU uU_X5 hown hK hP (p_67 hW) rfl rfl 0 (by decide) (hU _ uF_X5_12) rfl dX5_gatherFeet_11 ?_
      refine z_get hx hb hU uU_X6 hown hK hP (pW_68 hW).1 rfl rfl 0 (by decide) (hU _ uF_X5_51) rfl dX5_gatherFeet_14 ?_
      refine z_icmp_ge (tgt := 80) hx hb dX5_gatherFeet_17 (by decide) h (fun h => ?_) (fun h => ?_)
      · exact z_vret hx hb hlocks hP hS hQ hr dX5_gatherFeet_80 h
      · refine lv_aload_n hx hb dX5_gatherFeet_20 rfl (lv_at hl 0 rfl) ?_
        refine z_get hx hb hU uU_X5 hown hK hP (p_67 hW) rfl rfl 0 (by decide) (hU _ uF_X5_12) rfl dX5_gatherFeet_21 ?_
        refine lv_iload_n hx hb dX5_gatherFeet_24 rfl (lv_at hl 2 rfl) ?_
        refine lv_iload_n hx hb dX5_gatherFeet_25 rfl (lv_at hl 1 rfl) ?_
        refine z_callV_i hx hb hml hown hU hK hN hP hS 2 (pW_68 hW).1 rfl rfl (zU_V uL_X5_77 uI_X6_isDown uS_X6_isDown uN_X6 uC_X6_isDown) yd_X6_isDown ⟨rfl, rfl⟩ ⟨Nat.le_of_ble_eq_true rfl, Nat.le_of_ble_eq_true rfl⟩ (As := [.int x2, .int x1]) (fun o h9 => ctX6_isDown hq (pW_68 hW) h9) rfl hl.1 rfl (Nat.le_of_ble_eq_true rfl) dX5_gatherFeet_26 ⟨Nat.zero_le _, Nat.zero_le _⟩ h (fun r_2 S_1 H locs hP hS h => ?_)
        refine z_if_eq (tgt := 74) hx hb dX5_gatherFeet_29 (by decide) h (fun h => ?_) (fun h => ?_)
        · exact L74 x1 x2 _ _ _ ls hP hS (lv_sub hl [0, 1, 2] rfl) h
        · refine lv_aload_n hx hb dX5_gatherFeet_32 rfl (lv_at hl 0 rfl) ?_
          refine z_get hx hb hU uU_X5 hown hK hP (p_67 hW) rfl rfl 5 (by decide) (hU _ uF_X5_36) rfl dX5_gatherFeet_33 ?_
          refine lv_aload_n hx hb dX5_gatherFeet_36 rfl (lv_at hl 0 rfl) ?_
          refine z_get hx hb hU uU_X5 hown hK hP (p_67 hW) rfl rfl 0 (by decide) (hU _ uF_X5_12) rfl dX5_gatherFeet_37 ?_
          refine z_get hx hb hU uU_X6 hown hK hP (pW_68 hW).1 rfl rfl 7 (by decide) (hU _ uF_X5_139) rfl dX5_gatherFeet_40 ?_
          refine lv_iload_n hx hb dX5_gatherFeet_43 rfl (lv_at hl 2 rfl) ?_
          refine z_callV_i hx hb hml hown hU hK hN hP hS 1 (pW_68 hW).2.1.1 rfl rfl (zU_V uL_X5_70 uI_X2_at uS_X2_at uN_X2 uC_X2_at) yd_X2_at ⟨rfl, rfl⟩ ⟨Nat.le_of_ble_eq_true rfl, Nat.le_of_ble_eq_true rfl⟩ (As := [.int x2]) (fun o h9 => ctX2_at hq (pW_68 hW).2.1 h9) rfl hl.1 rfl (Nat.le_of_ble_eq_true rfl) dX5_gatherFeet_44 ⟨Nat.zero_le _, Nat.zero_le _⟩ h (fun r_4 S_3 H locs hP hS h => ?_)
          refine lv_aload_n hx hb dX5_gatherFeet_47 rfl (lv_at hl 0 rfl) ?_
          refine z_get hx hb hU uU_X5 hown hK hP (p_67 hW) rfl rfl 0 (by decide) (hU _ uF_X5_12) rfl dX5_gatherFeet_48 ?_
          refine z_get hx hb hU uU_X6 hown hK hP (pW_68 hW).1 rfl rfl 2 (by decide) (hU _ uF_X5_142) rfl dX5_gatherFeet_51 ?_
          refine lv_isub hx hb dX5_gatherFeet_54 ?_
          refine lv_aload_n hx hb dX5_gatherFeet_55 rfl (lv_at hl 0 rfl) ?_
          refine lv_iload_n hx hb dX5_gatherFeet_56 rfl (lv_at hl 2 rfl) ?_
          refine lv_iload_n hx hb dX5_gatherFeet_57 rfl (lv_at hl 1 rfl) ?_
          refine z_callV_i hx hb hml hown hU hK hN hP hS 2 (p_67 hW) rfl rfl (zU_V uL_X5_170 uI_X5_twiceY uS_X5_twiceY uN_X5 uC_X5_twiceY) yd_X5_twiceY ⟨rfl, rfl⟩ ⟨Nat.le_of_ble_eq_true rfl, Nat.le_of_ble_eq_true rfl⟩ (As := [.int x2, .int x1]) (fun o h9 => ctX5_twiceY hq hW h9) rfl hl.1 rfl (Nat.le_of_ble_eq_true rfl) dX5_gatherFeet_58 ⟨Nat.zero_le _, Nat.zero_le _⟩ h (fun r_6 S_5 H locs hP hS h => ?_)
          refine lv_iconst (v := 2) hx hb dX5_gatherFeet_61 rfl ?_
          refine lv_aload_n hx hb dX5_gatherFeet_62 rfl (lv_at hl 0 rfl) ?_
          refine z_get hx hb hU uU_X5 hown hK hP (p_67 hW) rfl rfl 0 (by decide) (hU _ uF_X5_12) rfl dX5_gatherFeet_63 ?_
          refine z_get hx hb hU uU_X6 hown hK hP (pW_68 hW).1 rfl rfl 3 (by decide) (hU _ uF_X5_145) rfl dX5_gatherFeet_66 ?_
          refine lv_imul hx hb dX5_gatherFeet_69 ?_
          refine lv_isub hx hb dX5_gatherFeet_70 ?_
          refine z_callV_v hx hb hml hown hU hK hN hP hS 2 (p_81 hW) rfl rfl (zU_V uL_X5_148 uI_X4_add uS_X4_add uN_X4 uC_X4_add) yd_X4_add ⟨rfl, rfl⟩ ⟨Nat.le_of_ble_eq_true rfl, Nat.le_of_ble_eq_true rfl⟩ (As := [.int (r_4 - (S_3.1 68 2)), .int (r_6 - (2 * (S_5.1 68 3)))]) (fun o h9 => ctX4_add hq hW h9) rfl hl.1 rfl (Nat.le_of_ble_eq_true rfl) dX5_gatherFeet_71 ⟨Nat.zero_le _, Nat.zero_le _⟩ h (fun S_7 H locs hP hS h => ?_)
          exact L74 x1 x2 _ _ _ ls hP hS (lv_sub hl [0, 1, 2] rfl) h
  refine lv_aload_n hx hb dX5_gatherFeet_0 rfl (lv_at hl 0 rfl) ?_
  refine z_get hx hb hU uU_X5 hown hK hP (p_67 hW) rfl rfl 5 (by decide) (hU _ uF_X5_36) rfl dX5_gatherFeet_1 ?_
  refine z_callV_v hx hb hml hown hU hK hN hP hS 0 (p_81 hW) rfl rfl (zU_V uL_X5_136 uI_X4_empty uS_X4_empty uN_X4 uC_X4_empty) yd_X4_empty ⟨rfl, rfl⟩ ⟨Nat.le_of_ble_eq_true rfl, Nat.le_of_ble_eq_true rfl⟩ (As := []) (fun o h9 => ctX4_empty hq hW h9) rfl hl.1 rfl (Nat.le_of_ble_eq_true rfl) dX5_gatherFeet_4 ⟨Nat.zero_le _, Nat.zero_le _⟩ h (fun S_8 H locs hP hS h => ?_)
  refine lv_iconst (v := 0) hx hb dX5_gatherFeet_7 rfl ?_
  refine lv_istore_n (lv' := [(2, .int 0), (0, .ref (q 67)), (1, .int a1)]) hx hb dX5_gatherFeet_8 rfl hl (by decide) rfl (fun ls hl => ?_)
  exact L9 zF a1 0 _ _ _ ls hP hS (lv_sub hl [1, 2, 0] rfl) h

def fX1_isNone (b : Nat) (S : zT) : Option (Int32 × zT) :=
  (if (lg_cmp (S.2 b 1) 0) = 0 then some (1, S) else some (0, S))
abbrev rmX1_isNone : Room := { frames := 0, cells := 0, slots := 0, locals := 0 }
theorem yd_X1_isNone : yX1_isNone.cls = RX1 ∧ yX1_isNone.cls ≠ "java/lang/invoke/MethodHandle" ∧ yX1_isNone.cls ≠ "java/lang/invoke/VarHandle" ∧ (parseMethodDescriptor yX1_isNone.desc).map (fun d => d.parameters.length) = some 0 := by decide +kernel
set_option maxRecDepth 100000 in
set_option maxHeartbeats 4000000 in
theorem ctX1_isNone {l : Launch} {dC : Nat → ClassId} {dI : Nat → Nat → Nat} {cI : ClassId × ClassId} {cW : List zSh} {q : Nat → Nat} (hq : zI cW q) {b : Nat} (hb0 : isRat cI cW b) {S : zT} {o : Int32 × zT} (h : fX1_isNone b S = some o) : zCi l dC dI cI cW q yX1_isNone (Cond.code yX1_isNone cX1_isNone 1 (some .boolean) :: zU) rmX1_isNone [.ref (q b)] S o := by
  refine zMet_i (lv := [(0, .ref (q b))]) (by decide) (Nat.le_of_ble_eq_true rfl) rfl ?_
  intro p e s m args below meth c Q hx hb hml hr hU hown hlocks hK hN hP hS ls hl hQ
  replace hown : s.vm.findClass RX1 = some m.cls := hown
  unfold fX1_isNone at h
  refine lv_aload_n hx hb dX1_isNone_0 rfl (lv_at hl 0 rfl) ?_
  refine z_get hx hb hU uU_X1 hown hK hP hb0 rfl rfl 1 (by decide) (hU _ uF_X1_13) rfl dX1_isNone_1 ?_
  refine lv_lconst (v := 0) hx hb dX1_isNone_4 rfl ?_
  refine W.lcmp hx hb dX1_isNone_5 ?_
  refine z_if_ne (tgt := 13) hx hb dX1_isNone_6 (by decide) h (fun h => ?_) (fun h => ?_)
  · refine lv_iconst (v := 0) hx hb dX1_isNone_13 rfl ?_
    exact z_zretC hx hb hlocks hP hS hQ hr dX1_isNone_14 (Or.inl rfl) h
  · refine lv_iconst (v := 1) hx hb dX1_isNone_9 rfl ?_
    refine lv_goto (tgt := 14) hx hb dX1_isNone_10 (by decide) ?_
    exact z_zretC hx hb hlocks hP hS hQ hr dX1_isNone_14 (Or.inr rfl) h

def fX4_heightAbove (a1 : Int32) (a2 : Int32) (S : zT) : Option (Int32 × zT) :=
  zbi (fX2_at 84 8 a1 S) fun r_2 S_1 =>
  zbi (fX2_at 86 8 a2 S_1) fun r_4 S_3 =>
  zbi (fX2_at 88 8 a2 S_3) fun r_6 S_5 =>
  zbi (fX2_at 82 8 a1 S_5) fun r_8 S_7 =>
  some (((r_2 * r_4) - (r_6 * r_8)), S_7)
abbrev rmX4_heightAbove : Room := { frames := 1, cells := 0, slots := 0, locals := 21 }
theorem yd_X4_heightAbove : yX4_heightAbove.cls = RX4 ∧ yX4_heightAbove.cls ≠ "java/lang/invoke/MethodHandle" ∧ yX4_heightAbove.cls ≠ "java/lang/invoke/VarHandle" ∧ (parseMethodDescriptor yX4_heightAbove.desc).map (fun d => d.parameters.length) = some 2 := by decide +kernel
set_option maxRecDepth 100000 in
set_option maxHeartbeats 4000000 in
theorem ctX4_heightAbove {l : Launch} {dC : Nat → ClassId} {dI : Nat → Nat → Nat} {cI : ClassId × ClassId} {cW : List zSh} {q : Nat → Nat} (hq : zI cW q) (hW : zIs cI cW) {a1 : Int32} {a2 : Int32} {S : zT} {o : Int32 × zT} (h : fX4_heightAbove a1 a2 S = some o) : zCi l dC dI cI cW q yX4_heightAbove (Cond.code yX4_heightAbove cX4_heightAbove 3 (some .int) :: zU) rmX4_heightAbove [.ref (q 81), .int a1, .int a2] S o := by
  refine zMet_i (lv := [(0, .ref (q 81)), (1, .int a1), (2, .int a2)]) (by decide) (Nat.le_of_ble_eq_true rfl) rfl ?_
  intro p e s m args below meth c Q hx hb hml hr hU hown hlocks hK hN hP hS ls hl hQ
  replace hown : s.vm.findClass RX4 = some m.cls := hown
  unfold fX4_heightAbove at h
  refine lv_aload_n hx hb dX4_heightAbove_0 rfl (lv_at hl 0 rfl) ?_
  refine z_get hx hb hU uU_X4 hown hK hP (p_81 hW) rfl rfl 1 (by decide) (hU _ uF_X4_20) rfl dX4_heightAbove_1 ?_
  refine lv_iload_n hx hb dX4_heightAbove_4 rfl (lv_at hl 1 rfl) ?_
  refine z_callV_i hx hb hml hown hU hK hN hP hS 1 (pR_84 hW).1 rfl rfl (zU_V uL_X4_75 uI_X2_at uS_X2_at uN_X2 uC_X2_at) yd_X2_at ⟨rfl, rfl⟩ ⟨Nat.le_of_ble_eq_true rfl, Nat.le_of_ble_eq_true rfl⟩ (As := [.int a1]) (fun o h9 => ctX2_at hq (pR_84 hW) h9) rfl hl.1 rfl (Nat.le_of_ble_eq_true rfl) dX4_heightAbove_5 ⟨Nat.zero_le _, Nat.zero_le _⟩ h (fun r_2 S_1 H locs hP hS h => ?_)
  refine lv_aload_n hx hb dX4_heightAbove_8 rfl (lv_at hl 0 rfl) ?_
  refine z_get hx hb hU uU_X4 hown hK hP (p_81 hW) rfl rfl 2 (by decide) (hU _ uF_X4_23) rfl dX4_heightAbove_9 ?_
  refine lv_iload_n hx hb dX4_heightAbove_12 rfl (lv_at hl 2 rfl) ?_
  refine z_callV_i hx hb hml hown hU hK hN hP hS 1 (pR_86 hW).1 rfl rfl (zU_V uL_X4_75 uI_X2_at uS_X2_at uN_X2 uC_X2_at) yd_X2_at ⟨rfl, rfl⟩ ⟨Nat.le_of_ble_eq_true rfl, Nat.le_of_ble_eq_true rfl⟩ (As := [.int a2]) (fun o h9 => ctX2_at hq (pR_86 hW) h9) rfl hl.1 rfl (Nat.le_of_ble_eq_true rfl) dX4_heightAbove_13 ⟨Nat.zero_le _, Nat.zero_le _⟩ h (fun r_4 S_3 H locs hP hS h => ?_)
  refine lv_imul hx hb dX4_heightAbove_16 ?_
  refine lv_aload_n hx hb dX4_heightAbove_17 rfl (lv_at hl 0 rfl) ?_
  refine z_get hx hb hU uU_X4 hown hK hP (p_81 hW) rfl rfl 3 (by decide) (hU _ uF_X4_26) rfl dX4_heightAbove_18 ?_
  refine lv_iload_n hx hb dX4_heightAbove_21 rfl (lv_at hl 2 rfl) ?_
  refine z_callV_i hx hb hml hown hU hK hN hP hS 1 (pR_88 hW).1 rfl rfl (zU_V uL_X4_75 uI_X2_at uS_X2_at uN_X2 uC_X2_at) yd_X2_at ⟨rfl, rfl⟩ ⟨Nat.le_of_ble_eq_true rfl, Nat.le_of_ble_eq_true rfl⟩ (As := [.int a2]) (fun o h9 => ctX2_at hq (pR_88 hW) h9) rfl hl.1 rfl (Nat.le_of_ble_eq_true rfl) dX4_heightAbove_22 ⟨Nat.zero_le _, Nat.zero_le _⟩ h (fun r_6 S_5 H locs hP hS h => ?_)
  refine lv_aload_n hx hb dX4_heightAbove_25 rfl (lv_at hl 0 rfl) ?_
  refine z_get hx hb hU uU_X4 hown hK hP (p_81 hW) rfl rfl 0 (by decide) (hU _ uF_X4_14) rfl dX4_heightAbove_26 ?_
  refine lv_iload_n hx hb dX4_heightAbove_29 rfl (lv_at hl 1 rfl) ?_
  refine z_callV_i hx hb hml hown hU hK hN hP hS 1 (pR_82 hW).1 rfl rfl (zU_V uL_X4_75 uI_X2_at uS_X2_at uN_X2 uC_X2_at) yd_X2_at ⟨rfl, rfl⟩ ⟨Nat.le_of_ble_eq_true rfl, Nat.le_of_ble_eq_true rfl⟩ (As := [.int a1]) (fun o h9 => ctX2_at hq (pR_82 hW) h9) rfl hl.1 rfl (Nat.le_of_ble_eq_true rfl) dX4_heightAbove_30 ⟨Nat.zero_le _, Nat.zero_le _⟩ h (fun r_8 S_7 H locs hP hS h => ?_)
  refine lv_imul hx hb dX4_heightAbove_33 ?_
  refine lv_isub hx hb dX4_heightAbove_34 ?_
  exact z_iret hx hb hlocks hP hS hQ hr dX4_heightAbove_35 h

