def fX5_findLeast_70 (k4 : Int32 → Int32 → zT → Option (Int32 × zT)) (x1 : Int32) (x2 : Int32) (S : zT) : Option (Int32 × zT) :=
  k4 x1 (x2 + 1) S
def fX5_findLeast_60 (k70 : Int32 → Int32 → zT → Option (Int32 × zT)) (x2 : Int32) (S : zT) : Option (Int32 × zT) :=
  zbv (fX1_copyFrom 93 92 S) fun S_1 =>
  k70 x2 x2 S_1
def fX5_findLeast_4 (rec : Int32 → Int32 → zT → Option (Int32 × zT)) (x1 : Int32) (x2 : Int32) (S : zT) : Option (Int32 × zT) :=
  (if (S.1 68 6) ≤ x2 then some (x1, S) else zbi (fX2_at (68 + 5) 16 x2 S) fun r_3 S_2 =>
  (if r_3 = 0 then (fX5_findLeast_70 rec) x1 x2 S_2 else zbv (fX5_marginAt x2 S_2) fun S_4 =>
  zbi (fX1_isNone 92 S_4) fun r_6 S_5 =>
  (if r_6 = 0 then (if x1 = (-1) then (fX5_findLeast_60 (fX5_findLeast_70 rec)) x2 S_5 else zbi (fX1_isLessThan 92 93 S_5) fun r_8 S_7 =>
  (if r_8 = 0 then (fX5_findLeast_70 rec) x1 x2 S_7 else (fX5_findLeast_60 (fX5_findLeast_70 rec)) x2 S_7)) else some ((-1), S_5))))
def fX5_findLeast (S : zT) : Option (Int32 × zT) :=
  (zfix (fun _ _ _ => none) fX5_findLeast_4 zF) (-1) 0 S
abbrev rmX5_findLeast : Room := { frames := 4, cells := 0, slots := 0, locals := 89 }
theorem yd_X5_findLeast : yX5_findLeast.cls = RX5 ∧ yX5_findLeast.cls ≠ "java/lang/invoke/MethodHandle" ∧ yX5_findLeast.cls ≠ "java/lang/invoke/VarHandle" ∧ (parseMethodDescriptor yX5_findLeast.desc).map (fun d => d.parameters.length) = some 0 := by decide +kernel
set_option maxRecDepth 100000 in
set_option maxHeartbeats 4000000 in
theorem ctX5_findLeast {l : Launch} {dC : Nat → ClassId} {dI : Nat → Nat → Nat} {cI : ClassId × ClassId} {cW : List zSh} {q : Nat → Nat} (hq : zI cW q) (hW : zIs cI cW) {S : zT} {o : Int32 × zT} (h : fX5_findLeast S = some o) : zCi l dC dI cI cW q yX5_findLeast (Cond.code yX5_findLeast cX5_findLeast 4 (some .int) :: zU) rmX5_findLeast [.ref (q 67)] S o := by
  refine zMet_i (lv := [(0, .ref (q 67))]) (by decide) (Nat.le_of_ble_eq_true rfl) rfl ?_
  intro p e s m args below meth c Q hx hb hml hr hU hown hlocks hK hN hP hS ls hl hQ
  replace hown : s.vm.findClass RX5 = some m.cls := hown
  unfold fX5_findLeast at h
  have L4 : ∀ (n4 : Nat) (x1 : Int32) (x2 : Int32) (S : zT) (H : Heap) (locs : List Loc) (ls : Array Slot), va_P (dC, dI) vwCl (zWd cI cW q S) H → va_S (zA cW q) s.heap H locs → lv_has ls 4 [(0, .ref (q 67)), (1, .int x1), (2, .int x2)] → (zfix (fun _ _ _ => none) fX5_findLeast_4 n4) x1 x2 S = some o → W p l e rmX5_findLeast s m args below meth c H locs 0 0 Q (F0 m 4 ls []) := by
    intro n4
    induction n4 with
    | zero => intro x1 x2 S H locs ls hP hS hl h; exact zno (show (none : Option (Int32 × zT)) = some o from h)
    | succ n4 ih4 =>
      intro x1 x2 S H locs ls hP hS hl h
      replace h : fX5_findLeast_4 (zfix (fun _ _ _ => none) fX5_findLeast_4 n4) x1 x2 S = some o := h
      unfold fX5_findLeast_4 at h
      have L70 : ∀ (x1 : Int32) (x2 : Int32) (S : zT) (H : Heap) (locs : List Loc) (ls : Array Slot), va_P (dC, dI) vwCl (zWd cI cW q S) H → va_S (zA cW q) s.heap H locs → lv_has ls 4 [(0, .ref (q 67)), (1, .int x1), (2, .int x2)] → (fX5_findLeast_70 (zfix (fun _ _ _ => none) fX5_findLeast_4 n4)) x1 x2 S = some o → W p l e rmX5_findLeast s m args below meth c H locs 0 0 Q (F0 m 70 ls []) := by
        intro x1 x2 S H locs ls hP hS hl h
        unfold fX5_findLeast_70 at h
        refine lv_iinc (v := (x2 + 1)) (lv' := [(2, .int (x2 + 1)), (0, .ref (q 67)), (1, .int x1)]) hx hb dX5_findLeast_70 hl (k := 2) rfl rfl (by decide) rfl (fun ls hl => ?_)
        refine lv_goto (tgt := 4) hx hb dX5_findLeast_73 (by decide) ?_
        exact ih4 x1 (x2 + 1) _ _ _ ls hP hS (lv_sub hl [1, 2, 0] rfl) h
      have L60 : ∀ (x2 : Int32) (S : zT) (H : Heap) (locs : List Loc) (ls : Array Slot), va_P (dC, dI) vwCl (zWd cI cW q S) H → va_S (zA cW q) s.heap H locs → lv_has ls 4 [(0, .ref (q 67)), (2, .int x2), (3, .ref (q 92))] → (fX5_findLeast_60 (fX5_findLeast_70 (zfix (fun _ _ _ => none) fX5_findLeast_4 n4))) x2 S = some o → W p l e rmX5_findLeast s m args below meth c H locs 0 0 Q (F0 m 60 ls []) := by
        intro x2 S H locs ls hP hS hl h
        unfold fX5_findLeast_60 at h
        refine lv_aload_n hx hb dX5_findLeast_60 rfl (lv_at hl 0 rfl) ?_
        refine z_get hx hb hU uU_X5 hown hK hP (p_67 hW) rfl rfl 6 (by decide) (hU _ uF_X5_43) rfl dX5_findLeast_61 ?_
        refine lv_aload_n hx hb dX5_findLeast_64 rfl (lv_at hl 2 rfl) ?_
        refine z_callV_v hx hb hml hown hU hK hN hP hS 1 (pT_93 hW) rfl rfl (zU_V uL_X5_166 uI_X1_copyFrom uS_X1_copyFrom uN_X1 uC_X1_copyFrom) yd_X1_copyFrom ⟨rfl, rfl⟩ ⟨Nat.le_of_ble_eq_true rfl, Nat.le_of_ble_eq_true rfl⟩ (As := [.ref (q 92)]) (fun o h9 => ctX1_copyFrom hq (pT_93 hW) (pT_92 hW) h9) rfl hl.1 rfl (Nat.le_of_ble_eq_true rfl) dX5_findLeast_65 ⟨Nat.zero_le _, Nat.zero_le _⟩ h (fun S_1 H locs hP hS h => ?_)
        refine lv_iload_n hx hb dX5_findLeast_68 rfl (lv_at hl 1 rfl) ?_
        refine lv_istore_n (lv' := [(1, .int x2), (0, .ref (q 67)), (2, .int x2), (3, .ref (q 92))]) hx hb dX5_findLeast_69 rfl hl (by decide) rfl (fun ls hl => ?_)
        exact L70 x2 x2 _ _ _ ls hP hS (lv_sub hl [1, 0, 2] rfl) h
      refine lv_iload_n hx hb dX5_findLeast_4 rfl (lv_at hl 2 rfl) ?_
      refine lv_aload_n hx hb dX5_findLeast_5 rfl (lv_at hl 0 rfl) ?_
      refine z_get hx hb hU uU_X5 hown hK hP (p_67 hW) rfl rfl 0 (by decide) (hU _ uF_X5_12) rfl dX5_findLeast_6 ?_
      refine z_get hx hb hU uU_X6 hown hK hP (pW_68 hW).1 rfl rfl 6 (by decide) (hU _ uF_X5_74) rfl dX5_findLeast_9 ?_
      refine z_icmp_ge (tgt := 76) hx hb dX5_findLeast_12 (by decide) h (fun h => ?_) (fun h => ?_)
      · refine lv_iload_n hx hb dX5_findLeast_76 rfl (lv_at hl 1 rfl) ?_
        exact z_iret hx hb hlocks hP hS hQ hr dX5_findLeast_77 h
      · refine lv_aload_n hx hb dX5_findLeast_15 rfl (lv_at hl 0 rfl) ?_
        refine z_get hx hb hU uU_X5 hown hK hP (p_67 hW) rfl rfl 0 (by decide) (hU _ uF_X5_12) rfl dX5_findLeast_16 ?_
        refine z_get hx hb hU uU_X6 hown hK hP (pW_68 hW).1 rfl rfl 9 (by decide) (hU _ uF_X5_114) rfl dX5_findLeast_19 ?_
        refine lv_iload_n hx hb dX5_findLeast_22 rfl (lv_at hl 2 rfl) ?_
        refine z_callV_i hx hb hml hown hU hK hN hP hS 1 (pW_68 hW).2.2.2.1 rfl rfl (zU_V uL_X5_70 uI_X2_at uS_X2_at uN_X2 uC_X2_at) yd_X2_at ⟨rfl, rfl⟩ ⟨Nat.le_of_ble_eq_true rfl, Nat.le_of_ble_eq_true rfl⟩ (As := [.int x2]) (fun o h9 => ctX2_at hq (pW_68 hW).2.2.2 h9) rfl hl.1 rfl (Nat.le_of_ble_eq_true rfl) dX5_findLeast_23 ⟨Nat.zero_le _, Nat.zero_le _⟩ h (fun r_3 S_2 H locs hP hS h => ?_)
        refine z_if_eq (tgt := 70) hx hb dX5_findLeast_26 (by decide) h (fun h => ?_) (fun h => ?_)
        · exact L70 x1 x2 _ _ _ ls hP hS (lv_sub hl [0, 1, 2] rfl) h
        · refine lv_aload_n hx hb dX5_findLeast_29 rfl (lv_at hl 0 rfl) ?_
          refine lv_iload_n hx hb dX5_findLeast_30 rfl (lv_at hl 2 rfl) ?_
          refine z_callV_s hx hb hml hown hU hK hN hP hS 1 (p_67 hW) rfl rfl (zU_V uL_X5_155 uI_X5_marginAt uS_X5_marginAt uN_X5 uC_X5_marginAt) yd_X5_marginAt ⟨rfl, rfl⟩ ⟨Nat.le_of_ble_eq_true rfl, Nat.le_of_ble_eq_true rfl⟩ (As := [.int x2]) (fun o h9 => ctX5_marginAt hq hW h9) rfl hl.1 rfl (Nat.le_of_ble_eq_true rfl) dX5_findLeast_31 ⟨Nat.zero_le _, Nat.zero_le _⟩ h (fun S_4 H locs hP hS h => ?_)
          refine lv_astore_n (lv' := [(3, .ref (q 92)), (0, .ref (q 67)), (1, .int x1), (2, .int x2)]) hx hb dX5_findLeast_34 rfl hl (by decide) rfl (fun ls hl => ?_)
          refine lv_aload_n hx hb dX5_findLeast_35 rfl (lv_at hl 0 rfl) ?_
          refine z_callV_i hx hb hml hown hU hK hN hP hS 0 (pT_92 hW) rfl rfl (zU_V uL_X5_159 uI_X1_isNone uS_X1_isNone uN_X1 uC_X1_isNone) yd_X1_isNone ⟨rfl, rfl⟩ ⟨Nat.le_of_ble_eq_true rfl, Nat.le_of_ble_eq_true rfl⟩ (As := []) (fun o h9 => ctX1_isNone hq (pT_92 hW) h9) rfl hl.1 rfl (Nat.le_of_ble_eq_true rfl) dX5_findLeast_36 ⟨Nat.zero_le _, Nat.zero_le _⟩ h (fun r_6 S_5 H locs hP hS h => ?_)
          refine z_if_eq (tgt := 44) hx hb dX5_findLeast_39 (by decide) h (fun h => ?_) (fun h => ?_)
          · refine lv_iload_n hx hb dX5_findLeast_44 rfl (lv_at hl 2 rfl) ?_
            refine lv_iconst (v := (-1)) hx hb dX5_findLeast_45 rfl ?_
            refine z_icmp_eq (tgt := 60) hx hb dX5_findLeast_46 (by decide) h (fun h => ?_) (fun h => ?_)
            · exact L60 x2 _ _ _ ls hP hS (lv_sub hl [1, 3, 0] rfl) h
            · refine lv_aload_n hx hb dX5_findLeast_49 rfl (lv_at hl 0 rfl) ?_
              refine lv_aload_n hx hb dX5_findLeast_50 rfl (lv_at hl 1 rfl) ?_
              refine z_get hx hb hU uU_X5 hown hK hP (p_67 hW) rfl rfl 6 (by decide) (hU _ uF_X5_43) rfl dX5_findLeast_51 ?_
              refine z_callV_i hx hb hml hown hU hK hN hP hS 1 (pT_92 hW) rfl rfl (zU_V uL_X5_162 uI_X1_isLessThan uS_X1_isLessThan uN_X1 uC_X1_isLessThan) yd_X1_isLessThan ⟨rfl, rfl⟩ ⟨Nat.le_of_ble_eq_true rfl, Nat.le_of_ble_eq_true rfl⟩ (As := [.ref (q 93)]) (fun o h9 => ctX1_isLessThan hq (pT_92 hW) (pT_93 hW) h9) rfl hl.1 rfl (Nat.le_of_ble_eq_true rfl) dX5_findLeast_54 ⟨Nat.zero_le _, Nat.zero_le _⟩ h (fun r_8 S_7 H locs hP hS h => ?_)
              refine z_if_eq (tgt := 70) hx hb dX5_findLeast_57 (by decide) h (fun h => ?_) (fun h => ?_)
              · exact L70 x1 x2 _ _ _ ls hP hS (lv_sub hl [1, 2, 3] rfl) h
              · exact L60 x2 _ _ _ ls hP hS (lv_sub hl [1, 3, 0] rfl) h
          · refine lv_iconst (v := (-1)) hx hb dX5_findLeast_42 rfl ?_
            exact z_iret hx hb hlocks hP hS hQ hr dX5_findLeast_43 h
  refine lv_iconst (v := (-1)) hx hb dX5_findLeast_0 rfl ?_
  refine lv_istore_n (lv' := [(1, .int (-1)), (0, .ref (q 67))]) hx hb dX5_findLeast_1 rfl hl (by decide) rfl (fun ls hl => ?_)
  refine lv_iconst (v := 0) hx hb dX5_findLeast_2 rfl ?_
  refine lv_istore_n (lv' := [(2, .int 0), (1, .int (-1)), (0, .ref (q 67))]) hx hb dX5_findLeast_3 rfl hl (by decide) rfl (fun ls hl => ?_)
  exact L4 zF (-1) 0 _ _ _ ls hP hS (lv_sub hl [2, 1, 0] rfl) h

def fX7_worst (a1 : Int32) (S : zT) : Option (Int64 × zT) :=
  zbi (fX7_isWithin a1 0 2 S) fun r_2 S_1 =>
  (if r_2 = 0 then some ((-10000), S_1) else zbv (fX7_tryOut S_1) fun S_3 =>
  zbi (fX5_findLeast S_3) fun r_5 S_4 =>
  (if r_5 = (-1) then some ((-10000), S_4) else (if a1 = 2 then some ((r_5).toInt64, S_4) else zbl (fX7_partOf 93 a1 S_4) fun r_7 S_6 =>
  some (r_7, S_6))))
abbrev rmX7_worst : Room := { frames := 6, cells := 0, slots := 0, locals := 132 }
theorem yd_X7_worst : yX7_worst.cls = RX7 ∧ yX7_worst.cls ≠ "java/lang/invoke/MethodHandle" ∧ yX7_worst.cls ≠ "java/lang/invoke/VarHandle" ∧ (parseMethodDescriptor yX7_worst.desc).map (fun d => d.parameters.length) = some 1 := by decide +kernel
set_option maxRecDepth 100000 in
set_option maxHeartbeats 4000000 in
theorem ctX7_worst {l : Launch} {dC : Nat → ClassId} {dI : Nat → Nat → Nat} {cI : ClassId × ClassId} {cW : List zSh} {q : Nat → Nat} (hq : zI cW q) (hW : zIs cI cW) {a1 : Int32} {S : zT} {o : Int64 × zT} (h : fX7_worst a1 S = some o) : zCl l dC dI cI cW q yX7_worst (Cond.code yX7_worst cX7_worst 3 (some .long) :: zU) rmX7_worst [.ref (q 0), .int a1] S o := by
  refine zMet_l (lv := [(0, .ref (q 0)), (1, .int a1)]) (by decide) (Nat.le_of_ble_eq_true rfl) rfl ?_
  intro p e s m args below meth c Q hx hb hml hr hU hown hlocks hK hN hP hS ls hl hQ
  replace hown : s.vm.findClass RX7 = some m.cls := hown
  unfold fX7_worst at h
  refine lv_iload_n hx hb dX7_worst_0 rfl (lv_at hl 1 rfl) ?_
  refine lv_iconst (v := 0) hx hb dX7_worst_1 rfl ?_
  refine lv_iconst (v := 2) hx hb dX7_worst_2 rfl ?_
  refine z_callS_i hx hb hml hown hU hK hN hP hS 3 (zU_J uL_X7_63 uT_X7_isWithin uN_X7 uC_X7_isWithin) yd_X7_isWithin ⟨rfl, rfl⟩ ⟨Nat.le_of_ble_eq_true rfl, Nat.le_of_ble_eq_true rfl⟩ (As := [.int a1, .int 0, .int 2]) (fun o h9 => ctX7_isWithin hq  h9) rfl hl.1 rfl (Nat.le_of_ble_eq_true rfl) dX7_worst_3 ⟨Nat.zero_le _, Nat.zero_le _⟩ h (fun r_2 S_1 H locs hP hS h => ?_)
  refine z_if_ne (tgt := 13) hx hb dX7_worst_6 (by decide) h (fun h => ?_) (fun h => ?_)
  · refine lv_aload_n hx hb dX7_worst_13 rfl (lv_at hl 0 rfl) ?_
    refine z_callV_v hx hb hml hown hU hK hN hP hS 0 (p_0 hW) rfl rfl (zU_V uL_X7_151 uI_X7_tryOut uS_X7_tryOut uN_X7 uC_X7_tryOut) yd_X7_tryOut ⟨rfl, rfl⟩ ⟨Nat.le_of_ble_eq_true rfl, Nat.le_of_ble_eq_true rfl⟩ (As := []) (fun o h9 => ctX7_tryOut hq hW h9) rfl hl.1 rfl (Nat.le_of_ble_eq_true rfl) dX7_worst_14 ⟨Nat.zero_le _, Nat.zero_le _⟩ h (fun S_3 H locs hP hS h => ?_)
    refine lv_aload_n hx hb dX7_worst_17 rfl (lv_at hl 0 rfl) ?_
    refine z_get hx hb hU uU_X7 hown hK hP (p_0 hW) rfl rfl 3 (by decide) (hU _ uF_X7_34) rfl dX7_worst_18 ?_
    refine z_callV_i hx hb hml hown hU hK hN hP hS 0 (p_67 hW) rfl rfl (zU_V uL_X7_179 uI_X5_findLeast uS_X5_findLeast uN_X5 uC_X5_findLeast) yd_X5_findLeast ⟨rfl, rfl⟩ ⟨Nat.le_of_ble_eq_true rfl, Nat.le_of_ble_eq_true rfl⟩ (As := []) (fun o h9 => ctX5_findLeast hq hW h9) rfl hl.1 rfl (Nat.le_of_ble_eq_true rfl) dX7_worst_21 ⟨Nat.zero_le _, Nat.zero_le _⟩ h (fun r_5 S_4 H locs hP hS h => ?_)
    refine lv_istore_n (lv' := [(2, .int r_5), (0, .ref (q 0)), (1, .int a1)]) hx hb dX7_worst_24 rfl hl (by decide) rfl (fun ls hl => ?_)
    refine lv_iload_n hx hb dX7_worst_25 rfl (lv_at hl 0 rfl) ?_
    refine lv_iconst (v := (-1)) hx hb dX7_worst_26 rfl ?_
    refine z_icmp_ne (tgt := 34) hx hb dX7_worst_27 (by decide) h (fun h => ?_) (fun h => ?_)
    · refine lv_iload_n hx hb dX7_worst_34 rfl (lv_at hl 2 rfl) ?_
      refine lv_iconst (v := 2) hx hb dX7_worst_35 rfl ?_
      refine z_icmp_ne (tgt := 44) hx hb dX7_worst_36 (by decide) h (fun h => ?_) (fun h => ?_)
      · refine lv_aload_n hx hb dX7_worst_44 rfl (lv_at hl 1 rfl) ?_
        refine z_get hx hb hU uU_X7 hown hK hP (p_0 hW) rfl rfl 3 (by decide) (hU _ uF_X7_34) rfl dX7_worst_45 ?_
        refine z_get hx hb hU uU_X5 hown hK hP (p_67 hW) rfl rfl 6 (by decide) (hU _ uF_X7_182) rfl dX7_worst_48 ?_
        refine lv_iload_n hx hb dX7_worst_51 rfl (lv_at hl 2 rfl) ?_
        refine z_callS_l hx hb hml hown hU hK hN hP hS 2 (zU_J uL_X7_175 uT_X7_partOf uN_X7 uC_X7_partOf) yd_X7_partOf ⟨rfl, rfl⟩ ⟨Nat.le_of_ble_eq_true rfl, Nat.le_of_ble_eq_true rfl⟩ (As := [.ref (q 93), .int a1]) (fun o h9 => ctX7_partOf hq (pT_93 hW) h9) rfl hl.1 rfl (Nat.le_of_ble_eq_true rfl) dX7_worst_52 ⟨Nat.zero_le _, Nat.zero_le _⟩ h (fun r_7 S_6 H locs hP hS h => ?_)
        exact z_lret hx hb hlocks hP hS hQ hr dX7_worst_55 h
      · refine lv_iload_n hx hb dX7_worst_39 rfl (lv_at hl 0 rfl) ?_
        refine lv_i2l (v := (r_5).toInt64) hx hb dX7_worst_40 rfl ?_
        refine lv_goto (tgt := 55) hx hb dX7_worst_41 (by decide) ?_
        exact z_lret hx hb hlocks hP hS hQ hr dX7_worst_55 h
    · refine lv_ldc2 (v := (-10000)) hx hb hown (hU _ uK_X7_169) dX7_worst_30 ?_
      exact z_lret hx hb hlocks hP hS hQ hr dX7_worst_33 h
  · refine lv_ldc2 (v := (-10000)) hx hb hown (hU _ uK_X7_169) dX7_worst_9 ?_
    exact z_lret hx hb hlocks hP hS hQ hr dX7_worst_12 h

def fX7_fastest_7 (rec : Int32 → zT → Option (Int32 × zT)) (x1 : Int32) (S : zT) : Option (Int32 × zT) :=
  (if x1 < 0 then some ((-1), S) else zlet (zsi S 68 4 x1) fun S_1 =>
  zbi (fX5_isSteady S_1) fun r_3 S_2 =>
  (if r_3 = 0 then rec (x1 + (-1)) S_2 else some (x1, S_2)))
def fX7_fastest (S : zT) : Option (Int32 × zT) :=
  zbv (fX7_tryOut S) fun S_4 =>
  (zfix (fun _ _ => none) fX7_fastest_7 zF) 9 S_4
abbrev rmX7_fastest : Room := { frames := 6, cells := 0, slots := 0, locals := 132 }
theorem yd_X7_fastest : yX7_fastest.cls = RX7 ∧ yX7_fastest.cls ≠ "java/lang/invoke/MethodHandle" ∧ yX7_fastest.cls ≠ "java/lang/invoke/VarHandle" ∧ (parseMethodDescriptor yX7_fastest.desc).map (fun d => d.parameters.length) = some 0 := by decide +kernel
set_option maxRecDepth 100000 in
set_option maxHeartbeats 4000000 in
theorem ctX7_fastest {l : Launch} {dC : Nat → ClassId} {dI : Nat → Nat → Nat} {cI : ClassId × ClassId} {cW : List zSh} {q : Nat → Nat} (hq : zI cW q) (hW : zIs cI cW) {S : zT} {o : Int32 × zT} (h : fX7_fastest S = some o) : zCi l dC dI cI cW q yX7_fastest (Cond.code yX7_fastest cX7_fastest 2 (some .int) :: zU) rmX7_fastest [.ref (q 0)] S o := by
  refine zMet_i (lv := [(0, .ref (q 0))]) (by decide) (Nat.le_of_ble_eq_true rfl) rfl ?_
  intro p e s m args below meth c Q hx hb hml hr hU hown hlocks hK hN hP hS ls hl hQ
  replace hown : s.vm.findClass RX7 = some m.cls := hown
  unfold fX7_fastest at h
  have L7 : ∀ (n7 : Nat) (x1 : Int32) (S : zT) (H : Heap) (locs : List Loc) (ls : Array Slot), va_P (dC, dI) vwCl (zWd cI cW q S) H → va_S (zA cW q) s.heap H locs → lv_has ls 2 [(0, .ref (q 0)), (1, .int x1)] → (zfix (fun _ _ => none) fX7_fastest_7 n7) x1 S = some o → W p l e rmX7_fastest s m args below meth c H locs 0 0 Q (F0 m 7 ls []) := by
    intro n7
    induction n7 with
    | zero => intro x1 S H locs ls hP hS hl h; exact zno (show (none : Option (Int32 × zT)) = some o from h)
    | succ n7 ih7 =>
      intro x1 S H locs ls hP hS hl h
      replace h : fX7_fastest_7 (zfix (fun _ _ => none) fX7_fastest_7 n7) x1 S = some o := h
      unfold fX7_fastest_7 at h
      refine lv_iload_n hx hb dX7_fastest_7 rfl (lv_at hl 1 rfl) ?_
      refine z_if_lt (tgt := 37) hx hb dX7_fastest_8 (by decide) h (fun h => ?_) (fun h => ?_)
      · refine lv_iconst (v := (-1)) hx hb dX7_fastest_37 rfl ?_
        exact z_iret hx hb hlocks hP hS hQ hr dX7_fastest_38 h
      · refine lv_aload_n hx hb dX7_fastest_11 rfl (lv_at hl 0 rfl) ?_
        refine z_get hx hb hU uU_X7 hown hK hP (p_0 hW) rfl rfl 4 (by decide) (hU _ uF_X7_40) rfl dX7_fastest_12 ?_
        refine lv_iload_n hx hb dX7_fastest_15 rfl (lv_at hl 1 rfl) ?_
        refine z_puti hx hb hU uU_X6 tyX6 tyX6_ok nmX6 hown hq hK hP hS (pW_68 hW).1 rfl rfl 4 (by decide) (hU _ uF_X7_99) rfl rfl rfl (Nat.le_of_ble_eq_true rfl) rfl dX7_fastest_16 h (fun S_1 H locs hP hS h => ?_)
        refine lv_aload_n hx hb dX7_fastest_19 rfl (lv_at hl 0 rfl) ?_
        refine z_get hx hb hU uU_X7 hown hK hP (p_0 hW) rfl rfl 3 (by decide) (hU _ uF_X7_34) rfl dX7_fastest_20 ?_
        refine z_callV_i hx hb hml hown hU hK hN hP hS 0 (p_67 hW) rfl rfl (zU_V uL_X7_160 uI_X5_isSteady uS_X5_isSteady uN_X5 uC_X5_isSteady) yd_X5_isSteady ⟨rfl, rfl⟩ ⟨Nat.le_of_ble_eq_true rfl, Nat.le_of_ble_eq_true rfl⟩ (As := []) (fun o h9 => ctX5_isSteady hq hW h9) rfl hl.1 rfl (Nat.le_of_ble_eq_true rfl) dX7_fastest_23 ⟨Nat.zero_le _, Nat.zero_le _⟩ h (fun r_3 S_2 H locs hP hS h => ?_)
        refine z_if_eq (tgt := 31) hx hb dX7_fastest_26 (by decide) h (fun h => ?_) (fun h => ?_)
        · refine lv_iinc (v := (x1 + (-1))) (lv' := [(1, .int (x1 + (-1))), (0, .ref (q 0))]) hx hb dX7_fastest_31 hl (k := 1) rfl rfl (by decide) rfl (fun ls hl => ?_)
          refine lv_goto (tgt := 7) hx hb dX7_fastest_34 (by decide) ?_
          exact ih7 (x1 + (-1)) _ _ _ ls hP hS (lv_sub hl [1, 0] rfl) h
        · refine lv_iload_n hx hb dX7_fastest_29 rfl (lv_at hl 1 rfl) ?_
          exact z_iret hx hb hlocks hP hS hQ hr dX7_fastest_30 h
  refine lv_aload_n hx hb dX7_fastest_0 rfl (lv_at hl 0 rfl) ?_
  refine z_callV_v hx hb hml hown hU hK hN hP hS 0 (p_0 hW) rfl rfl (zU_V uL_X7_151 uI_X7_tryOut uS_X7_tryOut uN_X7 uC_X7_tryOut) yd_X7_tryOut ⟨rfl, rfl⟩ ⟨Nat.le_of_ble_eq_true rfl, Nat.le_of_ble_eq_true rfl⟩ (As := []) (fun o h9 => ctX7_tryOut hq hW h9) rfl hl.1 rfl (Nat.le_of_ble_eq_true rfl) dX7_fastest_1 ⟨Nat.zero_le _, Nat.zero_le _⟩ h (fun S_4 H locs hP hS h => ?_)
  refine lv_bipush (v := 9) hx hb dX7_fastest_4 rfl ?_
  refine lv_istore_n (lv' := [(1, .int 9), (0, .ref (q 0))]) hx hb dX7_fastest_6 rfl hl (by decide) rfl (fun ls hl => ?_)
  exact L7 zF 9 _ _ _ ls hP hS (lv_sub hl [1, 0] rfl) h

def fX7_rowsOf_4 (rec : Int32 → Int32 → Int32 → Int32 → zT → Option (Int32 × zT)) (x0 : Int32) (x1 : Int32) (x2 : Int32) (x3 : Int32) (S : zT) : Option (Int32 × zT) :=
  (if x1 ≤ x3 then some (x2, S) else rec x0 x1 (x2 * x0) (x3 + 1) S)
def fX7_rowsOf (a0 : Int32) (a1 : Int32) (S : zT) : Option (Int32 × zT) :=
  (zfix (fun _ _ _ _ _ => none) fX7_rowsOf_4 zF) a0 a1 1 1 S
abbrev rmX7_rowsOf : Room := { frames := 0, cells := 0, slots := 0, locals := 0 }
theorem yd_X7_rowsOf : yX7_rowsOf.cls ≠ "java/lang/invoke/MethodHandle" ∧ yX7_rowsOf.cls ≠ "java/lang/invoke/VarHandle" ∧ (parseMethodDescriptor yX7_rowsOf.desc).map (fun d => d.parameters.length) = some 2 := by decide +kernel
set_option maxRecDepth 100000 in
set_option maxHeartbeats 4000000 in
theorem ctX7_rowsOf {l : Launch} {dC : Nat → ClassId} {dI : Nat → Nat → Nat} {cI : ClassId × ClassId} {cW : List zSh} {q : Nat → Nat} (hq : zI cW q) {a0 : Int32} {a1 : Int32} {S : zT} {o : Int32 × zT} (h : fX7_rowsOf a0 a1 S = some o) : zCi l dC dI cI cW q yX7_rowsOf (Cond.code yX7_rowsOf cX7_rowsOf 4 (some .int) :: zU) rmX7_rowsOf [.int a0, .int a1] S o := by
  refine zMet_i (lv := [(0, .int a0), (1, .int a1)]) (by decide) (Nat.le_of_ble_eq_true rfl) rfl ?_
  intro p e s m args below meth c Q hx hb hml hr hU hown hlocks hK hN hP hS ls hl hQ
  replace hown : s.vm.findClass RX7 = some m.cls := hown
  unfold fX7_rowsOf at h
  have L4 : ∀ (n4 : Nat) (x0 : Int32) (x1 : Int32) (x2 : Int32) (x3 : Int32) (S : zT) (H : Heap) (locs : List Loc) (ls : Array Slot), va_P (dC, dI) vwCl (zWd cI cW q S) H → va_S (zA cW q) s.heap H locs → lv_has ls 4 [(0, .int x0), (1, .int x1), (2, .int x2), (3, .int x3)] → (zfix (fun _ _ _ _ _ => none) fX7_rowsOf_4 n4) x0 x1 x2 x3 S = some o → W p l e rmX7_rowsOf s m args below meth c H locs 0 0 Q (F0 m 4 ls []) := by
    intro n4
    induction n4 with
    | zero => intro x0 x1 x2 x3 S H locs ls hP hS hl h; exact zno (show (none : Option (Int32 × zT)) = some o from h)
    | succ n4 ih4 =>
      intro x0 x1 x2 x3 S H locs ls hP hS hl h
      replace h : fX7_rowsOf_4 (zfix (fun _ _ _ _ _ => none) fX7_rowsOf_4 n4) x0 x1 x2 x3 S = some o := h
      unfold fX7_rowsOf_4 at h
      refine lv_iload_n hx hb dX7_rowsOf_4 rfl (lv_at hl 3 rfl) ?_
      refine lv_iload_n hx hb dX7_rowsOf_5 rfl (lv_at hl 1 rfl) ?_
      refine z_icmp_ge (tgt := 19) hx hb dX7_rowsOf_6 (by decide) h (fun h => ?_) (fun h => ?_)
      · refine lv_iload_n hx hb dX7_rowsOf_19 rfl (lv_at hl 2 rfl) ?_
        exact z_iret hx hb hlocks hP hS hQ hr dX7_rowsOf_20 h
      · refine lv_iload_n hx hb dX7_rowsOf_9 rfl (lv_at hl 2 rfl) ?_
        refine lv_iload_n hx hb dX7_rowsOf_10 rfl (lv_at hl 0 rfl) ?_
        refine lv_imul hx hb dX7_rowsOf_11 ?_
        refine lv_istore_n (lv' := [(2, .int (x2 * x0)), (0, .int x0), (1, .int x1), (3, .int x3)]) hx hb dX7_rowsOf_12 rfl hl (by decide) rfl (fun ls hl => ?_)
        refine lv_iinc (v := (x3 + 1)) (lv' := [(3, .int (x3 + 1)), (2, .int (x2 * x0)), (0, .int x0), (1, .int x1)]) hx hb dX7_rowsOf_13 hl (k := 3) rfl rfl (by decide) rfl (fun ls hl => ?_)
        refine lv_goto (tgt := 4) hx hb dX7_rowsOf_16 (by decide) ?_
        exact ih4 x0 x1 (x2 * x0) (x3 + 1) _ _ _ ls hP hS (lv_sub hl [2, 3, 1, 0] rfl) h
  refine lv_iconst (v := 1) hx hb dX7_rowsOf_0 rfl ?_
  refine lv_istore_n (lv' := [(2, .int 1), (0, .int a0), (1, .int a1)]) hx hb dX7_rowsOf_1 rfl hl (by decide) rfl (fun ls hl => ?_)
  refine lv_iconst (v := 1) hx hb dX7_rowsOf_2 rfl ?_
  refine lv_istore_n (lv' := [(3, .int 1), (2, .int 1), (0, .int a0), (1, .int a1)]) hx hb dX7_rowsOf_3 rfl hl (by decide) rfl (fun ls hl => ?_)
  exact L4 zF a0 a1 1 1 _ _ _ ls hP hS (lv_sub hl [2, 3, 1, 0] rfl) h

def fX7_areTold (a0 : Int32) (a1 : Int32) (a2 : Int32) (S : zT) : Option (Int32 × zT) :=
  zbi (fX7_areTicks a0 a1 S) fun r_2 S_1 =>
  (if r_2 = 0 then some (0, S_1) else zbi (fX7_rowsOf a0 a2 S_1) fun r_4 S_3 =>
  (if 2500 < r_4 then some (0, S_3) else some (1, S_3)))
abbrev rmX7_areTold : Room := { frames := 2, cells := 0, slots := 0, locals := 43 }
theorem yd_X7_areTold : yX7_areTold.cls ≠ "java/lang/invoke/MethodHandle" ∧ yX7_areTold.cls ≠ "java/lang/invoke/VarHandle" ∧ (parseMethodDescriptor yX7_areTold.desc).map (fun d => d.parameters.length) = some 3 := by decide +kernel
set_option maxRecDepth 100000 in
set_option maxHeartbeats 4000000 in
theorem ctX7_areTold {l : Launch} {dC : Nat → ClassId} {dI : Nat → Nat → Nat} {cI : ClassId × ClassId} {cW : List zSh} {q : Nat → Nat} (hq : zI cW q) {a0 : Int32} {a1 : Int32} {a2 : Int32} {S : zT} {o : Int32 × zT} (h : fX7_areTold a0 a1 a2 S = some o) : zCi l dC dI cI cW q yX7_areTold (Cond.code yX7_areTold cX7_areTold 3 (some .boolean) :: zU) rmX7_areTold [.int a0, .int a1, .int a2] S o := by
  refine zMet_i (lv := [(0, .int a0), (1, .int a1), (2, .int a2)]) (by decide) (Nat.le_of_ble_eq_true rfl) rfl ?_
  intro p e s m args below meth c Q hx hb hml hr hU hown hlocks hK hN hP hS ls hl hQ
  replace hown : s.vm.findClass RX7 = some m.cls := hown
  unfold fX7_areTold at h
  refine lv_iload_n hx hb dX7_areTold_0 rfl (lv_at hl 0 rfl) ?_
  refine lv_iload_n hx hb dX7_areTold_1 rfl (lv_at hl 1 rfl) ?_
  refine z_callS_i hx hb hml hown hU hK hN hP hS 2 (zU_J uL_X7_121 uT_X7_areTicks uN_X7 uC_X7_areTicks) yd_X7_areTicks ⟨rfl, rfl⟩ ⟨Nat.le_of_ble_eq_true rfl, Nat.le_of_ble_eq_true rfl⟩ (As := [.int a0, .int a1]) (fun o h9 => ctX7_areTicks hq  h9) rfl hl.1 rfl (Nat.le_of_ble_eq_true rfl) dX7_areTold_2 ⟨Nat.zero_le _, Nat.zero_le _⟩ h (fun r_2 S_1 H locs hP hS h => ?_)
  refine z_if_eq (tgt := 23) hx hb dX7_areTold_5 (by decide) h (fun h => ?_) (fun h => ?_)
  · refine lv_iconst (v := 0) hx hb dX7_areTold_23 rfl ?_
    exact z_zretC hx hb hlocks hP hS hQ hr dX7_areTold_24 (Or.inl rfl) h
  · refine lv_iload_n hx hb dX7_areTold_8 rfl (lv_at hl 0 rfl) ?_
    refine lv_iload_n hx hb dX7_areTold_9 rfl (lv_at hl 2 rfl) ?_
    refine z_callS_i hx hb hml hown hU hK hN hP hS 2 (zU_J uL_X7_232 uT_X7_rowsOf uN_X7 uC_X7_rowsOf) yd_X7_rowsOf ⟨rfl, rfl⟩ ⟨Nat.le_of_ble_eq_true rfl, Nat.le_of_ble_eq_true rfl⟩ (As := [.int a0, .int a2]) (fun o h9 => ctX7_rowsOf hq  h9) rfl hl.1 rfl (Nat.le_of_ble_eq_true rfl) dX7_areTold_10 ⟨Nat.zero_le _, Nat.zero_le _⟩ h (fun r_4 S_3 H locs hP hS h => ?_)
    refine lv_sipush (v := 2500) hx hb dX7_areTold_13 rfl ?_
    refine z_icmp_gt (tgt := 23) hx hb dX7_areTold_16 (by decide) h (fun h => ?_) (fun h => ?_)
    · refine lv_iconst (v := 0) hx hb dX7_areTold_23 rfl ?_
      exact z_zretC hx hb hlocks hP hS hQ hr dX7_areTold_24 (Or.inl rfl) h
    · refine lv_iconst (v := 1) hx hb dX7_areTold_19 rfl ?_
      refine lv_goto (tgt := 24) hx hb dX7_areTold_20 (by decide) ?_
      exact z_zretC hx hb hlocks hP hS hQ hr dX7_areTold_24 (Or.inr rfl) h

def fX5_holdsAtPlaces_86 (k19 : Int32 → Int32 → zT → Option (Int32 × zT)) (x1 : Int32) (x2 : Int32) (S : zT) : Option (Int32 × zT) :=
  k19 x1 (x2 + 1) S
def fX5_holdsAtPlaces_19 (rec : Int32 → Int32 → zT → Option (Int32 × zT)) (x1 : Int32) (x2 : Int32) (S : zT) : Option (Int32 × zT) :=
  (if (S.1 68 0) ≤ x2 then zbi (fX4_holdsMiddle S) fun r_2 S_1 =>
  if r_2 = 0 ∨ r_2 = 1 then some (r_2, S_1) else none else (if ((zshr x1 x2) &&& 1) = 1 then zbi (fX2_at (68 + 1) 8 x2 S) fun r_4 S_3 =>
  zbi (fX2_at (68 + 3) 8 x2 S_3) fun r_6 S_5 =>
  zbv (fX4_add (r_4 - (S_3.1 68 2)) (2 * (r_6 - (S_5.1 68 3))) S_5) fun S_7 =>
  (fX5_holdsAtPlaces_86 rec) x1 x2 S_7 else (fX5_holdsAtPlaces_86 rec) x1 x2 S))
def fX5_holdsAtPlaces (a1 : Int32) (S : zT) : Option (Int32 × zT) :=
  zbi (fX5_fitsKind a1 S) fun r_9 S_8 =>
  (if r_9 = 0 then some (0, S_8) else zbv (fX4_empty S_8) fun S_10 =>
  (zfix (fun _ _ _ => none) fX5_holdsAtPlaces_19 zF) a1 0 S_10)
abbrev rmX5_holdsAtPlaces : Room := { frames := 3, cells := 0, slots := 0, locals := 68 }
theorem yd_X5_holdsAtPlaces : yX5_holdsAtPlaces.cls = RX5 ∧ yX5_holdsAtPlaces.cls ≠ "java/lang/invoke/MethodHandle" ∧ yX5_holdsAtPlaces.cls ≠ "java/lang/invoke/VarHandle" ∧ (parseMethodDescriptor yX5_holdsAtPlaces.desc).map (fun d => d.parameters.length) = some 1 := by decide +kernel
set_option maxRecDepth 100000 in
set_option maxHeartbeats 4000000 in
theorem ctX5_holdsAtPlaces {l : Launch} {dC : Nat → ClassId} {dI : Nat → Nat → Nat} {cI : ClassId × ClassId} {cW : List zSh} {q : Nat → Nat} (hq : zI cW q) (hW : zIs cI cW) {a1 : Int32} {S : zT} {o : Int32 × zT} (h : fX5_holdsAtPlaces a1 S = some o) : zCi l dC dI cI cW q yX5_holdsAtPlaces (Cond.code yX5_holdsAtPlaces cX5_holdsAtPlaces 3 (some .boolean) :: zU) rmX5_holdsAtPlaces [.ref (q 67), .int a1] S o := by
  refine zMet_i (lv := [(0, .ref (q 67)), (1, .int a1)]) (by decide) (Nat.le_of_ble_eq_true rfl) rfl ?_
  intro p e s m args below meth c Q hx hb hml hr hU hown hlocks hK hN hP hS ls hl hQ
  replace hown : s.vm.findClass RX5 = some m.cls := hown
  unfold fX5_holdsAtPlaces at h
  have L19 : ∀ (n19 : Nat) (x1 : Int32) (x2 : Int32) (S : zT) (H : Heap) (locs : List Loc) (ls : Array Slot), va_P (dC, dI) vwCl (zWd cI cW q S) H → va_S (zA cW q) s.heap H locs → lv_has ls 3 [(0, .ref (q 67)), (1, .int x1), (2, .int x2)] → (zfix (fun _ _ _ => none) fX5_holdsAtPlaces_19 n19) x1 x2 S = some o → W p l e rmX5_holdsAtPlaces s m args below meth c H locs 0 0 Q (F0 m 19 ls []) := by
    intro n19
    induction n19 with
    | zero => intro x1 x2 S H locs ls hP hS hl h; exact zno (show (none : Option (Int32 × zT)) = some o from h)
    | succ n19 ih19 =>
      intro x1 x2 S H locs ls hP hS hl h
      replace h : fX5_holdsAtPlaces_19 (zfix (fun _ _ _ => none) fX5_holdsAtPlaces_19 n19) x1 x2 S = some o := h
      unfold fX5_holdsAtPlaces_19 at h
      have L86 : ∀ (x1 : Int32) (x2 : Int32) (S : zT) (H : Heap) (locs : List Loc) (ls : Array Slot), va_P (dC, dI) vwCl (zWd cI cW q S) H → va_S (zA cW q) s.heap H locs → lv_has ls 3 [(0, .ref (q 67)), (1, .int x1), (2, .int x2)] → (fX5_holdsAtPlaces_86 (zfix (fun _ _ _ => none) fX5_holdsAtPlaces_19 n19)) x1 x2 S = some o → W p l e rmX5_holdsAtPlaces s m args below meth c H locs 0 0 Q (F0 m 86 ls []) := by
        intro x1 x2 S H locs ls hP hS hl h
        unfold fX5_holdsAtPlaces_86 at h
        refine lv_iinc (v := (x2 + 1)) (lv' := [(2, .int (x2 + 1)), (0, .ref (q 67)), (1, .int x1)]) hx hb dX5_holdsAtPlaces_86 hl (k := 2) rfl rfl (by decide) rfl (fun ls hl => ?_)
        refine lv_goto (tgt := 19) hx hb dX5_holdsAtPlaces_89 (by decide) ?_
        exact ih19 x1 (x2 + 1) _ _ _ ls hP hS (lv_sub hl [1, 2, 0] rfl) h
      refine lv_iload_n hx hb dX5_holdsAtPlaces_19 rfl (lv_at hl 2 rfl) ?_
      refine lv_aload_n hx hb dX5_holdsAtPlaces_20 rfl (lv_at hl 0 rfl) ?_
      refine z_get hx hb hU uU_X5 hown hK hP (p_67 hW) rfl rfl 0 (by decide) (hU _ uF_X5_12) rfl dX5_holdsAtPlaces_21 ?_
      refine z_get hx hb hU uU_X6 hown hK hP (pW_68 hW).1 rfl rfl 0 (by decide) (hU _ uF_X5_51) rfl dX5_holdsAtPlaces_24 ?_
      refine z_icmp_ge (tgt := 92) hx hb dX5_holdsAtPlaces_27 (by decide) h (fun h => ?_) (fun h => ?_)
      · refine lv_aload_n hx hb dX5_holdsAtPlaces_92 rfl (lv_at hl 0 rfl) ?_
        refine z_get hx hb hU uU_X5 hown hK hP (p_67 hW) rfl rfl 5 (by decide) (hU _ uF_X5_36) rfl dX5_holdsAtPlaces_93 ?_
        refine z_callV_i hx hb hml hown hU hK hN hP hS 0 (p_81 hW) rfl rfl (zU_V uL_X5_132 uI_X4_holdsMiddle uS_X4_holdsMiddle uN_X4 uC_X4_holdsMiddle) yd_X4_holdsMiddle ⟨rfl, rfl⟩ ⟨Nat.le_of_ble_eq_true rfl, Nat.le_of_ble_eq_true rfl⟩ (As := []) (fun o h9 => ctX4_holdsMiddle hq hW h9) rfl hl.1 rfl (Nat.le_of_ble_eq_true rfl) dX5_holdsAtPlaces_96 ⟨Nat.zero_le _, Nat.zero_le _⟩ h (fun r_2 S_1 H locs hP hS h => ?_)
        exact z_zret hx hb hlocks hP hS hQ hr dX5_holdsAtPlaces_99 h
      · refine lv_iload_n hx hb dX5_holdsAtPlaces_30 rfl (lv_at hl 1 rfl) ?_
        refine lv_iload_n hx hb dX5_holdsAtPlaces_31 rfl (lv_at hl 2 rfl) ?_
        refine lv_ishr hx hb dX5_holdsAtPlaces_32 ?_
        refine lv_iconst (v := 1) hx hb dX5_holdsAtPlaces_33 rfl ?_
        refine lv_iand hx hb dX5_holdsAtPlaces_34 ?_
        refine lv_iconst (v := 1) hx hb dX5_holdsAtPlaces_35 rfl ?_
        refine z_icmp_ne (tgt := 86) hx hb dX5_holdsAtPlaces_36 (by decide) h (fun h => ?_) (fun h => ?_)
        · exact L86 x1 x2 _ _ _ ls hP hS (lv_sub hl [0, 1, 2] rfl) h
        · refine lv_aload_n hx hb dX5_holdsAtPlaces_39 rfl (lv_at hl 0 rfl) ?_
          refine z_get hx hb hU uU_X5 hown hK hP (p_67 hW) rfl rfl 5 (by decide) (hU _ uF_X5_36) rfl dX5_holdsAtPlaces_40 ?_
          refine lv_aload_n hx hb dX5_holdsAtPlaces_43 rfl (lv_at hl 0 rfl) ?_
          refine z_get hx hb hU uU_X5 hown hK hP (p_67 hW) rfl rfl 0 (by decide) (hU _ uF_X5_12) rfl dX5_holdsAtPlaces_44 ?_
          refine z_get hx hb hU uU_X6 hown hK hP (pW_68 hW).1 rfl rfl 7 (by decide) (hU _ uF_X5_139) rfl dX5_holdsAtPlaces_47 ?_
          refine lv_iload_n hx hb dX5_holdsAtPlaces_50 rfl (lv_at hl 2 rfl) ?_
          refine z_callV_i hx hb hml hown hU hK hN hP hS 1 (pW_68 hW).2.1.1 rfl rfl (zU_V uL_X5_70 uI_X2_at uS_X2_at uN_X2 uC_X2_at) yd_X2_at ⟨rfl, rfl⟩ ⟨Nat.le_of_ble_eq_true rfl, Nat.le_of_ble_eq_true rfl⟩ (As := [.int x2]) (fun o h9 => ctX2_at hq (pW_68 hW).2.1 h9) rfl hl.1 rfl (Nat.le_of_ble_eq_true rfl) dX5_holdsAtPlaces_51 ⟨Nat.zero_le _, Nat.zero_le _⟩ h (fun r_4 S_3 H locs hP hS h => ?_)
          refine lv_aload_n hx hb dX5_holdsAtPlaces_54 rfl (lv_at hl 0 rfl) ?_
          refine z_get hx hb hU uU_X5 hown hK hP (p_67 hW) rfl rfl 0 (by decide) (hU _ uF_X5_12) rfl dX5_holdsAtPlaces_55 ?_
          refine z_get hx hb hU uU_X6 hown hK hP (pW_68 hW).1 rfl rfl 2 (by decide) (hU _ uF_X5_142) rfl dX5_holdsAtPlaces_58 ?_
          refine lv_isub hx hb dX5_holdsAtPlaces_61 ?_
          refine lv_iconst (v := 2) hx hb dX5_holdsAtPlaces_62 rfl ?_
          refine lv_aload_n hx hb dX5_holdsAtPlaces_63 rfl (lv_at hl 0 rfl) ?_
          refine z_get hx hb hU uU_X5 hown hK hP (p_67 hW) rfl rfl 0 (by decide) (hU _ uF_X5_12) rfl dX5_holdsAtPlaces_64 ?_
          refine z_get hx hb hU uU_X6 hown hK hP (pW_68 hW).1 rfl rfl 8 (by decide) (hU _ uF_X5_96) rfl dX5_holdsAtPlaces_67 ?_
          refine lv_iload_n hx hb dX5_holdsAtPlaces_70 rfl (lv_at hl 2 rfl) ?_
          refine z_callV_i hx hb hml hown hU hK hN hP hS 1 (pW_68 hW).2.2.1.1 rfl rfl (zU_V uL_X5_70 uI_X2_at uS_X2_at uN_X2 uC_X2_at) yd_X2_at ⟨rfl, rfl⟩ ⟨Nat.le_of_ble_eq_true rfl, Nat.le_of_ble_eq_true rfl⟩ (As := [.int x2]) (fun o h9 => ctX2_at hq (pW_68 hW).2.2.1 h9) rfl hl.1 rfl (Nat.le_of_ble_eq_true rfl) dX5_holdsAtPlaces_71 ⟨Nat.zero_le _, Nat.zero_le _⟩ h (fun r_6 S_5 H locs hP hS h => ?_)
          refine lv_aload_n hx hb dX5_holdsAtPlaces_74 rfl (lv_at hl 0 rfl) ?_
          refine z_get hx hb hU uU_X5 hown hK hP (p_67 hW) rfl rfl 0 (by decide) (hU _ uF_X5_12) rfl dX5_holdsAtPlaces_75 ?_
          refine z_get hx hb hU uU_X6 hown hK hP (pW_68 hW).1 rfl rfl 3 (by decide) (hU _ uF_X5_145) rfl dX5_holdsAtPlaces_78 ?_
          refine lv_isub hx hb dX5_holdsAtPlaces_81 ?_
          refine lv_imul hx hb dX5_holdsAtPlaces_82 ?_
          refine z_callV_v hx hb hml hown hU hK hN hP hS 2 (p_81 hW) rfl rfl (zU_V uL_X5_148 uI_X4_add uS_X4_add uN_X4 uC_X4_add) yd_X4_add ⟨rfl, rfl⟩ ⟨Nat.le_of_ble_eq_true rfl, Nat.le_of_ble_eq_true rfl⟩ (As := [.int (r_4 - (S_3.1 68 2)), .int (2 * (r_6 - (S_5.1 68 3)))]) (fun o h9 => ctX4_add hq hW h9) rfl hl.1 rfl (Nat.le_of_ble_eq_true rfl) dX5_holdsAtPlaces_83 ⟨Nat.zero_le _, Nat.zero_le _⟩ h (fun S_7 H locs hP hS h => ?_)
          exact L86 x1 x2 _ _ _ ls hP hS (lv_sub hl [0, 1, 2] rfl) h
  refine lv_aload_n hx hb dX5_holdsAtPlaces_0 rfl (lv_at hl 0 rfl) ?_
  refine lv_iload_n hx hb dX5_holdsAtPlaces_1 rfl (lv_at hl 1 rfl) ?_
  refine z_callV_i hx hb hml hown hU hK hN hP hS 1 (p_67 hW) rfl rfl (zU_V uL_X5_126 uI_X5_fitsKind uS_X5_fitsKind uN_X5 uC_X5_fitsKind) yd_X5_fitsKind ⟨rfl, rfl⟩ ⟨Nat.le_of_ble_eq_true rfl, Nat.le_of_ble_eq_true rfl⟩ (As := [.int a1]) (fun o h9 => ctX5_fitsKind hq hW h9) rfl hl.1 rfl (Nat.le_of_ble_eq_true rfl) dX5_holdsAtPlaces_2 ⟨Nat.zero_le _, Nat.zero_le _⟩ h (fun r_9 S_8 H locs hP hS h => ?_)
  refine z_if_ne (tgt := 10) hx hb dX5_holdsAtPlaces_5 (by decide) h (fun h => ?_) (fun h => ?_)
  · refine lv_aload_n hx hb dX5_holdsAtPlaces_10 rfl (lv_at hl 0 rfl) ?_
    refine z_get hx hb hU uU_X5 hown hK hP (p_67 hW) rfl rfl 5 (by decide) (hU _ uF_X5_36) rfl dX5_holdsAtPlaces_11 ?_
    refine z_callV_v hx hb hml hown hU hK hN hP hS 0 (p_81 hW) rfl rfl (zU_V uL_X5_136 uI_X4_empty uS_X4_empty uN_X4 uC_X4_empty) yd_X4_empty ⟨rfl, rfl⟩ ⟨Nat.le_of_ble_eq_true rfl, Nat.le_of_ble_eq_true rfl⟩ (As := []) (fun o h9 => ctX4_empty hq hW h9) rfl hl.1 rfl (Nat.le_of_ble_eq_true rfl) dX5_holdsAtPlaces_14 ⟨Nat.zero_le _, Nat.zero_le _⟩ h (fun S_10 H locs hP hS h => ?_)
    refine lv_iconst (v := 0) hx hb dX5_holdsAtPlaces_17 rfl ?_
    refine lv_istore_n (lv' := [(2, .int 0), (0, .ref (q 67)), (1, .int a1)]) hx hb dX5_holdsAtPlaces_18 rfl hl (by decide) rfl (fun ls hl => ?_)
    exact L19 zF a1 0 _ _ _ ls hP hS (lv_sub hl [1, 2, 0] rfl) h
  · refine lv_iconst (v := 0) hx hb dX5_holdsAtPlaces_8 rfl ?_
    exact z_zretC hx hb hlocks hP hS hQ hr dX5_holdsAtPlaces_9 (Or.inl rfl) h

def fX5_readPlaces_33 (k10 : Int32 → Int32 → zT → Option zT) (x1 : Int32) (x2 : Int32) (t0 : Int32) (t1 : Int32) (S : zT) : Option zT :=
  zbv (fX2_put 79 256 t1 t0 S) fun S_1 =>
  k10 x1 (x2 + 1) S_1
def fX5_readPlaces_10 (rec : Int32 → Int32 → zT → Option zT) (x1 : Int32) (x2 : Int32) (S : zT) : Option zT :=
  (if x1 < x2 then some S else zbi (fX5_holdsAtPlaces x2 S) fun r_3 S_2 =>
  (if r_3 = 0 then (fX5_readPlaces_33 rec) x1 x2 0 x2 S_2 else (fX5_readPlaces_33 rec) x1 x2 1 x2 S_2))
def fX5_readPlaces (S : zT) : Option zT :=
  zbi (fX6_fullSet 68 S) fun r_5 S_4 =>
  (zfix (fun _ _ _ => none) fX5_readPlaces_10 zF) r_5 0 S_4
abbrev rmX5_readPlaces : Room := { frames := 4, cells := 0, slots := 0, locals := 90 }
theorem yd_X5_readPlaces : yX5_readPlaces.cls = RX5 ∧ yX5_readPlaces.cls ≠ "java/lang/invoke/MethodHandle" ∧ yX5_readPlaces.cls ≠ "java/lang/invoke/VarHandle" ∧ (parseMethodDescriptor yX5_readPlaces.desc).map (fun d => d.parameters.length) = some 0 := by decide +kernel
set_option maxRecDepth 100000 in
set_option maxHeartbeats 4000000 in
theorem ctX5_readPlaces {l : Launch} {dC : Nat → ClassId} {dI : Nat → Nat → Nat} {cI : ClassId × ClassId} {cW : List zSh} {q : Nat → Nat} (hq : zI cW q) (hW : zIs cI cW) {S : zT} {o : zT} (h : fX5_readPlaces S = some o) : zCv l dC dI cI cW q yX5_readPlaces (Cond.code yX5_readPlaces cX5_readPlaces 3 none :: zU) rmX5_readPlaces [.ref (q 67)] S o := by
  refine zMet_v (lv := [(0, .ref (q 67))]) (by decide) (Nat.le_of_ble_eq_true rfl) rfl ?_
  intro p e s m args below meth c Q hx hb hml hr hU hown hlocks hK hN hP hS ls hl hQ
  replace hown : s.vm.findClass RX5 = some m.cls := hown
  unfold fX5_readPlaces at h
  have L10 : ∀ (n10 : Nat) (x1 : Int32) (x2 : Int32) (S : zT) (H : Heap) (locs : List Loc) (ls : Array Slot), va_P (dC, dI) vwCl (zWd cI cW q S) H → va_S (zA cW q) s.heap H locs → lv_has ls 3 [(0, .ref (q 67)), (1, .int x1), (2, .int x2)] → (zfix (fun _ _ _ => none) fX5_readPlaces_10 n10) x1 x2 S = some o → W p l e rmX5_readPlaces s m args below meth c H locs 0 0 Q (F0 m 10 ls []) := by
    intro n10
    induction n10 with
    | zero => intro x1 x2 S H locs ls hP hS hl h; exact zno (show (none : Option zT) = some o from h)
    | succ n10 ih10 =>
      intro x1 x2 S H locs ls hP hS hl h
      replace h : fX5_readPlaces_10 (zfix (fun _ _ _ => none) fX5_readPlaces_10 n10) x1 x2 S = some o := h
      unfold fX5_readPlaces_10 at h
      have L33 : ∀ (x1 : Int32) (x2 : Int32) (t0 : Int32) (t1 : Int32) (S : zT) (H : Heap) (locs : List Loc) (ls : Array Slot), va_P (dC, dI) vwCl (zWd cI cW q S) H → va_S (zA cW q) s.heap H locs → lv_has ls 3 [(0, .ref (q 67)), (1, .int x1), (2, .int x2)] → (fX5_readPlaces_33 (zfix (fun _ _ _ => none) fX5_readPlaces_10 n10)) x1 x2 t0 t1 S = some o → W p l e rmX5_readPlaces s m args below meth c H locs 0 0 Q (F0 m 33 ls [.int t0, .int t1, .ref (q 79)]) := by
        intro x1 x2 t0 t1 S H locs ls hP hS hl h
        unfold fX5_readPlaces_33 at h
        refine z_callV_v hx hb hml hown hU hK hN hP hS 2 (pR_79 hW).1 rfl rfl (zU_V uL_X5_66 uI_X2_put uS_X2_put uN_X2 uC_X2_put) yd_X2_put ⟨rfl, rfl⟩ ⟨Nat.le_of_ble_eq_true rfl, Nat.le_of_ble_eq_true rfl⟩ (As := [.int t1, .int t0]) (fun o h9 => ctX2_put hq (pR_79 hW) h9) rfl hl.1 rfl (Nat.le_of_ble_eq_true rfl) dX5_readPlaces_33 ⟨Nat.zero_le _, Nat.zero_le _⟩ h (fun S_1 H locs hP hS h => ?_)
        refine lv_iinc (v := (x2 + 1)) (lv' := [(2, .int (x2 + 1)), (0, .ref (q 67)), (1, .int x1)]) hx hb dX5_readPlaces_36 hl (k := 2) rfl rfl (by decide) rfl (fun ls hl => ?_)
        refine lv_goto (tgt := 10) hx hb dX5_readPlaces_39 (by decide) ?_
        exact ih10 x1 (x2 + 1) _ _ _ ls hP hS (lv_sub hl [1, 2, 0] rfl) h
      refine lv_iload_n hx hb dX5_readPlaces_10 rfl (lv_at hl 2 rfl) ?_
      refine lv_iload_n hx hb dX5_readPlaces_11 rfl (lv_at hl 1 rfl) ?_
      refine z_icmp_gt (tgt := 42) hx hb dX5_readPlaces_12 (by decide) h (fun h => ?_) (fun h => ?_)
      · exact z_vret hx hb hlocks hP hS hQ hr dX5_readPlaces_42 h
      · refine lv_aload_n hx hb dX5_readPlaces_15 rfl (lv_at hl 0 rfl) ?_
        refine z_get hx hb hU uU_X5 hown hK hP (p_67 hW) rfl rfl 3 (by decide) (hU _ uF_X5_30) rfl dX5_readPlaces_16 ?_
        refine lv_iload_n hx hb dX5_readPlaces_19 rfl (lv_at hl 2 rfl) ?_
        refine lv_aload_n hx hb dX5_readPlaces_20 rfl (lv_at hl 0 rfl) ?_
        refine lv_iload_n hx hb dX5_readPlaces_21 rfl (lv_at hl 2 rfl) ?_
        refine z_callV_i hx hb hml hown hU hK hN hP hS 1 (p_67 hW) rfl rfl (zU_V uL_X5_62 uI_X5_holdsAtPlaces uS_X5_holdsAtPlaces uN_X5 uC_X5_holdsAtPlaces) yd_X5_holdsAtPlaces ⟨rfl, rfl⟩ ⟨Nat.le_of_ble_eq_true rfl, Nat.le_of_ble_eq_true rfl⟩ (As := [.int x2]) (fun o h9 => ctX5_holdsAtPlaces hq hW h9) rfl hl.1 rfl (Nat.le_of_ble_eq_true rfl) dX5_readPlaces_22 ⟨Nat.zero_le _, Nat.zero_le _⟩ h (fun r_3 S_2 H locs hP hS h => ?_)
        refine z_if_eq (tgt := 32) hx hb dX5_readPlaces_25 (by decide) h (fun h => ?_) (fun h => ?_)
        · refine lv_iconst (v := 0) hx hb dX5_readPlaces_32 rfl ?_
          exact L33 x1 x2 0 x2 _ _ _ ls hP hS (lv_sub hl [0, 1, 2] rfl) h
        · refine lv_iconst (v := 1) hx hb dX5_readPlaces_28 rfl ?_
          refine lv_goto (tgt := 33) hx hb dX5_readPlaces_29 (by decide) ?_
          exact L33 x1 x2 1 x2 _ _ _ ls hP hS (lv_sub hl [0, 1, 2] rfl) h
  refine lv_aload_n hx hb dX5_readPlaces_0 rfl (lv_at hl 0 rfl) ?_
  refine z_get hx hb hU uU_X5 hown hK hP (p_67 hW) rfl rfl 0 (by decide) (hU _ uF_X5_12) rfl dX5_readPlaces_1 ?_
  refine z_callV_i hx hb hml hown hU hK hN hP hS 0 (pW_68 hW).1 rfl rfl (zU_V uL_X5_58 uI_X6_fullSet uS_X6_fullSet uN_X6 uC_X6_fullSet) yd_X6_fullSet ⟨rfl, rfl⟩ ⟨Nat.le_of_ble_eq_true rfl, Nat.le_of_ble_eq_true rfl⟩ (As := []) (fun o h9 => ctX6_fullSet hq (pW_68 hW) h9) rfl hl.1 rfl (Nat.le_of_ble_eq_true rfl) dX5_readPlaces_4 ⟨Nat.zero_le _, Nat.zero_le _⟩ h (fun r_5 S_4 H locs hP hS h => ?_)
  refine lv_istore_n (lv' := [(1, .int r_5), (0, .ref (q 67))]) hx hb dX5_readPlaces_7 rfl hl (by decide) rfl (fun ls hl => ?_)
  refine lv_iconst (v := 0) hx hb dX5_readPlaces_8 rfl ?_
  refine lv_istore_n (lv' := [(2, .int 0), (1, .int r_5), (0, .ref (q 67))]) hx hb dX5_readPlaces_9 rfl hl (by decide) rfl (fun ls hl => ?_)
  exact L10 zF r_5 0 _ _ _ ls hP hS (lv_sub hl [2, 1, 0] rfl) h

def fX3_start_75 (x1 : Int32) (S : zT) : Option (Int32 × zT) :=
  zbi (fX7_rowsOf x1 (S.1 68 0) S) fun r_2 S_1 =>
  some (r_2, S_1)
def fX3_start_7 (rec : Int32 → Int32 → Int32 → zT → Option (Int32 × zT)) (x1 : Int32) (x2 : Int32) (x3 : Int32) (S : zT) : Option (Int32 × zT) :=
  (if (S.1 68 0) ≤ x3 then zbv (fX6_layRow 68 x1 x2 0 S) fun S_3 =>
  zbv (fX5_readGait S_3) fun S_4 =>
  (if (S_4.1 68 4) = 0 then zbv (fX5_readPlaces S_4) fun S_5 =>
  zlet (zsi S_5 67 4 1) fun S_6 =>
  fX3_start_75 x1 S_6 else fX3_start_75 x1 S_4) else zbv (fX2_put 94 8 x3 0 S) fun S_7 =>
  rec x1 x2 (x3 + 1) S_7)
def fX3_start (a1 : Int32) (a2 : Int32) (S : zT) : Option (Int32 × zT) :=
  zlet (zsi S 66 4 a2) fun S_8 =>
  (zfix (fun _ _ _ _ => none) fX3_start_7 zF) a1 a2 0 S_8
abbrev rmX3_start : Room := { frames := 5, cells := 0, slots := 0, locals := 112 }
theorem yd_X3_start : yX3_start.cls = RX3 ∧ yX3_start.cls ≠ "java/lang/invoke/MethodHandle" ∧ yX3_start.cls ≠ "java/lang/invoke/VarHandle" ∧ (parseMethodDescriptor yX3_start.desc).map (fun d => d.parameters.length) = some 2 := by decide +kernel
set_option maxRecDepth 100000 in
set_option maxHeartbeats 4000000 in
theorem ctX3_start {l : Launch} {dC : Nat → ClassId} {dI : Nat → Nat → Nat} {cI : ClassId × ClassId} {cW : List zSh} {q : Nat → Nat} (hq : zI cW q) (hW : zIs cI cW) {a1 : Int32} {a2 : Int32} {S : zT} {o : Int32 × zT} (h : fX3_start a1 a2 S = some o) : zCi l dC dI cI cW q yX3_start (Cond.code yX3_start cX3_start 4 (some .int) :: zU) rmX3_start [.ref (q 66), .int a1, .int a2] S o := by
  refine zMet_i (lv := [(0, .ref (q 66)), (1, .int a1), (2, .int a2)]) (by decide) (Nat.le_of_ble_eq_true rfl) rfl ?_
  intro p e s m args below meth c Q hx hb hml hr hU hown hlocks hK hN hP hS ls hl hQ
  replace hown : s.vm.findClass RX3 = some m.cls := hown
  unfold fX3_start at h
  have L7 : ∀ (n7 : Nat) (x1 : Int32) (x2 : Int32) (x3 : Int32) (S : zT) (H : Heap) (locs : List Loc) (ls : Array Slot), va_P (dC, dI) vwCl (zWd cI cW q S) H → va_S (zA cW q) s.heap H locs → lv_has ls 4 [(0, .ref (q 66)), (1, .int x1), (2, .int x2), (3, .int x3)] → (zfix (fun _ _ _ _ => none) fX3_start_7 n7) x1 x2 x3 S = some o → W p l e rmX3_start s m args below meth c H locs 0 0 Q (F0 m 7 ls []) := by
    intro n7
    induction n7 with
    | zero => intro x1 x2 x3 S H locs ls hP hS hl h; exact zno (show (none : Option (Int32 × zT)) = some o from h)
    | succ n7 ih7 =>
      intro x1 x2 x3 S H locs ls hP hS hl h
      replace h : fX3_start_7 (zfix (fun _ _ _ _ => none) fX3_start_7 n7) x1 x2 x3 S = some o := h
      unfold fX3_start_7 at h
      have L75 : ∀ (x1 : Int32) (S : zT) (H : Heap) (locs : List Loc) (ls : Array Slot), va_P (dC, dI) vwCl (zWd cI cW q S) H → va_S (zA cW q) s.heap H locs → lv_has ls 4 [(0, .ref (q 66)), (1, .int x1)] → fX3_start_75 x1 S = some o → W p l e rmX3_start s m args below meth c H locs 0 0 Q (F0 m 75 ls []) := by
        intro x1 S H locs ls hP hS hl h
        unfold fX3_start_75 at h
        refine lv_iload_n hx hb dX3_start_75 rfl (lv_at hl 1 rfl) ?_
        refine lv_aload_n hx hb dX3_start_76 rfl (lv_at hl 0 rfl) ?_
        refine z_get hx hb hU uU_X3 hown hK hP (p_66 hW) rfl rfl 1 (by decide) (hU _ uF_X3_22) rfl dX3_start_77 ?_
        refine z_get hx hb hU uU_X6 hown hK hP (pW_68 hW).1 rfl rfl 0 (by decide) (hU _ uF_X3_39) rfl dX3_start_80 ?_
        refine z_callN_i hx hb hml hown hU hK hN hP hS 2 hN.2 uN_X7 uT_X7_rowsOf uC_X7_rowsOf yd_X7_rowsOf ⟨rfl, rfl⟩ ⟨Nat.le_of_ble_eq_true rfl, Nat.le_of_ble_eq_true rfl⟩ (As := [.int x1, .int (S.1 68 0)]) (fun o h9 => ctX7_rowsOf hq  h9) rfl hl.1 rfl (Nat.le_of_ble_eq_true rfl) dX3_start_83 ⟨Nat.zero_le _, Nat.zero_le _⟩ h (fun r_2 S_1 H locs hP hS h => ?_)
        exact z_iret hx hb hlocks hP hS hQ hr dX3_start_86 h
      refine lv_iload_n hx hb dX3_start_7 rfl (lv_at hl 3 rfl) ?_
      refine lv_aload_n hx hb dX3_start_8 rfl (lv_at hl 0 rfl) ?_
      refine z_get hx hb hU uU_X3 hown hK hP (p_66 hW) rfl rfl 1 (by decide) (hU _ uF_X3_22) rfl dX3_start_9 ?_
      refine z_get hx hb hU uU_X6 hown hK hP (pW_68 hW).1 rfl rfl 0 (by decide) (hU _ uF_X3_39) rfl dX3_start_12 ?_
      refine z_icmp_ge (tgt := 33) hx hb dX3_start_15 (by decide) h (fun h => ?_) (fun h => ?_)
      · refine lv_aload_n hx hb dX3_start_33 rfl (lv_at hl 0 rfl) ?_
        refine z_get hx hb hU uU_X3 hown hK hP (p_66 hW) rfl rfl 1 (by decide) (hU _ uF_X3_22) rfl dX3_start_34 ?_
        refine lv_iload_n hx hb dX3_start_37 rfl (lv_at hl 1 rfl) ?_
        refine lv_iload_n hx hb dX3_start_38 rfl (lv_at hl 2 rfl) ?_
        refine lv_iconst (v := 0) hx hb dX3_start_39 rfl ?_
        refine z_callV_v hx hb hml hown hU hK hN hP hS 3 (pW_68 hW).1 rfl rfl (zU_V uL_X3_48 uI_X6_layRow uS_X6_layRow uN_X6 uC_X6_layRow) yd_X6_layRow ⟨rfl, rfl⟩ ⟨Nat.le_of_ble_eq_true rfl, Nat.le_of_ble_eq_true rfl⟩ (As := [.int x1, .int x2, .int 0]) (fun o h9 => ctX6_layRow hq (pW_68 hW) h9) rfl hl.1 rfl (Nat.le_of_ble_eq_true rfl) dX3_start_40 ⟨Nat.zero_le _, Nat.zero_le _⟩ h (fun S_3 H locs hP hS h => ?_)
        refine lv_aload_n hx hb dX3_start_43 rfl (lv_at hl 0 rfl) ?_
        refine z_get hx hb hU uU_X3 hown hK hP (p_66 hW) rfl rfl 0 (by decide) (hU _ uF_X3_12) rfl dX3_start_44 ?_
        refine z_callV_v hx hb hml hown hU hK hN hP hS 0 (p_67 hW) rfl rfl (zU_V uL_X3_52 uI_X5_readGait uS_X5_readGait uN_X5 uC_X5_readGait) yd_X5_readGait ⟨rfl, rfl⟩ ⟨Nat.le_of_ble_eq_true rfl, Nat.le_of_ble_eq_true rfl⟩ (As := []) (fun o h9 => ctX5_readGait hq hW h9) rfl hl.1 rfl (Nat.le_of_ble_eq_true rfl) dX3_start_47 ⟨Nat.zero_le _, Nat.zero_le _⟩ h (fun S_4 H locs hP hS h => ?_)
        refine lv_aload_n hx hb dX3_start_50 rfl (lv_at hl 0 rfl) ?_
        refine z_get hx hb hU uU_X3 hown hK hP (p_66 hW) rfl rfl 1 (by decide) (hU _ uF_X3_22) rfl dX3_start_51 ?_
        refine z_get hx hb hU uU_X6 hown hK hP (pW_68 hW).1 rfl rfl 4 (by decide) (hU _ uF_X3_55) rfl dX3_start_54 ?_
        refine z_if_ne (tgt := 75) hx hb dX3_start_57 (by decide) h (fun h => ?_) (fun h => ?_)
        · exact L75 x1 _ _ _ ls hP hS (lv_sub hl [0, 1] rfl) h
        · refine lv_aload_n hx hb dX3_start_60 rfl (lv_at hl 0 rfl) ?_
          refine z_get hx hb hU uU_X3 hown hK hP (p_66 hW) rfl rfl 0 (by decide) (hU _ uF_X3_12) rfl dX3_start_61 ?_
          refine z_callV_v hx hb hml hown hU hK hN hP hS 0 (p_67 hW) rfl rfl (zU_V uL_X3_58 uI_X5_readPlaces uS_X5_readPlaces uN_X5 uC_X5_readPlaces) yd_X5_readPlaces ⟨rfl, rfl⟩ ⟨Nat.le_of_ble_eq_true rfl, Nat.le_of_ble_eq_true rfl⟩ (As := []) (fun o h9 => ctX5_readPlaces hq hW h9) rfl hl.1 rfl (Nat.le_of_ble_eq_true rfl) dX3_start_64 ⟨Nat.zero_le _, Nat.zero_le _⟩ h (fun S_5 H locs hP hS h => ?_)
          refine lv_aload_n hx hb dX3_start_67 rfl (lv_at hl 0 rfl) ?_
          refine z_get hx hb hU uU_X3 hown hK hP (p_66 hW) rfl rfl 0 (by decide) (hU _ uF_X3_12) rfl dX3_start_68 ?_
          refine lv_iconst (v := 1) hx hb dX3_start_71 rfl ?_
          refine z_puti hx hb hU uU_X5 tyX5 tyX5_ok nmX5 hown hq hK hP hS (p_67 hW) rfl rfl 4 (by decide) (hU _ uF_X3_61) rfl rfl rfl (Nat.le_of_ble_eq_true rfl) rfl dX3_start_72 h (fun S_6 H locs hP hS h => ?_)
          exact L75 x1 _ _ _ ls hP hS (lv_sub hl [0, 1] rfl) h
      · refine lv_aload_n hx hb dX3_start_18 rfl (lv_at hl 0 rfl) ?_
        refine z_get hx hb hU uU_X3 hown hK hP (p_66 hW) rfl rfl 2 (by decide) (hU _ uF_X3_28) rfl dX3_start_19 ?_
        refine lv_iload_n hx hb dX3_start_22 rfl (lv_at hl 3 rfl) ?_
        refine lv_iconst (v := 0) hx hb dX3_start_23 rfl ?_
        refine z_callV_v hx hb hml hown hU hK hN hP hS 2 (pR_94 hW).1 rfl rfl (zU_V uL_X3_44 uI_X2_put uS_X2_put uN_X2 uC_X2_put) yd_X2_put ⟨rfl, rfl⟩ ⟨Nat.le_of_ble_eq_true rfl, Nat.le_of_ble_eq_true rfl⟩ (As := [.int x3, .int 0]) (fun o h9 => ctX2_put hq (pR_94 hW) h9) rfl hl.1 rfl (Nat.le_of_ble_eq_true rfl) dX3_start_24 ⟨Nat.zero_le _, Nat.zero_le _⟩ h (fun S_7 H locs hP hS h => ?_)
        refine lv_iinc (v := (x3 + 1)) (lv' := [(3, .int (x3 + 1)), (0, .ref (q 66)), (1, .int x1), (2, .int x2)]) hx hb dX3_start_27 hl (k := 3) rfl rfl (by decide) rfl (fun ls hl => ?_)
        refine lv_goto (tgt := 7) hx hb dX3_start_30 (by decide) ?_
        exact ih7 x1 x2 (x3 + 1) _ _ _ ls hP hS (lv_sub hl [1, 2, 3, 0] rfl) h
  refine lv_aload_n hx hb dX3_start_0 rfl (lv_at hl 0 rfl) ?_
  refine lv_iload_n hx hb dX3_start_1 rfl (lv_at hl 2 rfl) ?_
  refine z_puti hx hb hU uU_X3 tyX3 tyX3_ok nmX3 hown hq hK hP hS (p_66 hW) rfl rfl 4 (by decide) (hU _ uF_X3_35) rfl rfl rfl (Nat.le_of_ble_eq_true rfl) rfl dX3_start_2 h (fun S_8 H locs hP hS h => ?_)
  refine lv_iconst (v := 0) hx hb dX3_start_5 rfl ?_
  refine lv_istore_n (lv' := [(3, .int 0), (0, .ref (q 66)), (1, .int a1), (2, .int a2)]) hx hb dX3_start_6 rfl hl (by decide) rfl (fun ls hl => ?_)
  exact L7 zF a1 a2 0 _ _ _ ls hP hS (lv_sub hl [1, 2, 3, 0] rfl) h

def fX3_goOn_62 (k12 : Int32 → Int32 → zT → Option zT) (x1 : Int32) (x2 : Int32) (t0 : Int32) (t1 : Int32) (S : zT) : Option zT :=
  zbv (fX2_put 94 8 t1 t0 S) fun S_1 =>
  zbi (fX2_at 94 8 x2 S_1) fun r_3 S_2 =>
  zbv (fX6_layLeg 68 x2 (S_1.1 66 4) r_3 S_2) fun S_4 =>
  zbv (fX5_readLeg x2 S_4) fun S_5 =>
  k12 x1 (x2 + (-1)) S_5
def fX3_goOn_47 (k12 : Int32 → Int32 → zT → Option zT) (x2 : Int32) (x3 : Int32) (t0 : Int32) (S : zT) : Option zT :=
  (if t0 = 0 then (fX3_goOn_62 k12) t0 x2 x3 x2 S else (fX3_goOn_62 k12) t0 x2 0 x2 S)
def fX3_goOn_12 (rec : Int32 → Int32 → zT → Option zT) (x1 : Int32) (x2 : Int32) (S : zT) : Option zT :=
  (if x1 = 0 then some S else (if x2 ≤ 0 then some S else zbi (fX2_at 94 8 x2 S) fun r_7 S_6 =>
  (if (r_7 + 1) < (S_6.1 68 6) then (fX3_goOn_47 rec) x2 (r_7 + 1) 0 S_6 else (fX3_goOn_47 rec) x2 (r_7 + 1) 1 S_6)))
def fX3_goOn (S : zT) : Option zT :=
  (zfix (fun _ _ _ => none) fX3_goOn_12 zF) 1 ((S.1 68 0) - 1) S
abbrev rmX3_goOn : Room := { frames := 4, cells := 0, slots := 0, locals := 91 }
theorem yd_X3_goOn : yX3_goOn.cls = RX3 ∧ yX3_goOn.cls ≠ "java/lang/invoke/MethodHandle" ∧ yX3_goOn.cls ≠ "java/lang/invoke/VarHandle" ∧ (parseMethodDescriptor yX3_goOn.desc).map (fun d => d.parameters.length) = some 0 := by decide +kernel
set_option maxRecDepth 100000 in
set_option maxHeartbeats 4000000 in
theorem ctX3_goOn {l : Launch} {dC : Nat → ClassId} {dI : Nat → Nat → Nat} {cI : ClassId × ClassId} {cW : List zSh} {q : Nat → Nat} (hq : zI cW q) (hW : zIs cI cW) {S : zT} {o : zT} (h : fX3_goOn S = some o) : zCv l dC dI cI cW q yX3_goOn (Cond.code yX3_goOn cX3_goOn 4 none :: zU) rmX3_goOn [.ref (q 66)] S o := by
  refine zMet_v (lv := [(0, .ref (q 66))]) (by decide) (Nat.le_of_ble_eq_true rfl) rfl ?_
  intro p e s m args below meth c Q hx hb hml hr hU hown hlocks hK hN hP hS ls hl hQ
  replace hown : s.vm.findClass RX3 = some m.cls := hown
  unfold fX3_goOn at h
  have L12 : ∀ (n12 : Nat) (x1 : Int32) (x2 : Int32) (S : zT) (H : Heap) (locs : List Loc) (ls : Array Slot), va_P (dC, dI) vwCl (zWd cI cW q S) H → va_S (zA cW q) s.heap H locs → lv_has ls 4 [(0, .ref (q 66)), (1, .int x1), (2, .int x2)] → (zfix (fun _ _ _ => none) fX3_goOn_12 n12) x1 x2 S = some o → W p l e rmX3_goOn s m args below meth c H locs 0 0 Q (F0 m 12 ls []) := by
    intro n12
    induction n12 with
    | zero => intro x1 x2 S H locs ls hP hS hl h; exact zno (show (none : Option zT) = some o from h)
    | succ n12 ih12 =>
      intro x1 x2 S H locs ls hP hS hl h
      replace h : fX3_goOn_12 (zfix (fun _ _ _ => none) fX3_goOn_12 n12) x1 x2 S = some o := h
      unfold fX3_goOn_12 at h
      have L47 : ∀ (x2 : Int32) (x3 : Int32) (t0 : Int32) (S : zT) (H : Heap) (locs : List Loc) (ls : Array Slot), va_P (dC, dI) vwCl (zWd cI cW q S) H → va_S (zA cW q) s.heap H locs → lv_has ls 4 [(0, .ref (q 66)), (2, .int x2), (3, .int x3)] → (fX3_goOn_47 (zfix (fun _ _ _ => none) fX3_goOn_12 n12)) x2 x3 t0 S = some o → W p l e rmX3_goOn s m args below meth c H locs 0 0 Q (F0 m 47 ls [.int t0]) := by
        intro x2 x3 t0 S H locs ls hP hS hl h
        unfold fX3_goOn_47 at h
        have L62 : ∀ (x1 : Int32) (x2 : Int32) (t0 : Int32) (t1 : Int32) (S : zT) (H : Heap) (locs : List Loc) (ls : Array Slot), va_P (dC, dI) vwCl (zWd cI cW q S) H → va_S (zA cW q) s.heap H locs → lv_has ls 4 [(0, .ref (q 66)), (1, .int x1), (2, .int x2)] → (fX3_goOn_62 (zfix (fun _ _ _ => none) fX3_goOn_12 n12)) x1 x2 t0 t1 S = some o → W p l e rmX3_goOn s m args below meth c H locs 0 0 Q (F0 m 62 ls [.int t0, .int t1, .ref (q 94)]) := by
          intro x1 x2 t0 t1 S H locs ls hP hS hl h
          unfold fX3_goOn_62 at h
          refine z_callV_v hx hb hml hown hU hK hN hP hS 2 (pR_94 hW).1 rfl rfl (zU_V uL_X3_44 uI_X2_put uS_X2_put uN_X2 uC_X2_put) yd_X2_put ⟨rfl, rfl⟩ ⟨Nat.le_of_ble_eq_true rfl, Nat.le_of_ble_eq_true rfl⟩ (As := [.int t1, .int t0]) (fun o h9 => ctX2_put hq (pR_94 hW) h9) rfl hl.1 rfl (Nat.le_of_ble_eq_true rfl) dX3_goOn_62 ⟨Nat.zero_le _, Nat.zero_le _⟩ h (fun S_1 H locs hP hS h => ?_)
          refine lv_aload_n hx hb dX3_goOn_65 rfl (lv_at hl 0 rfl) ?_
          refine z_get hx hb hU uU_X3 hown hK hP (p_66 hW) rfl rfl 1 (by decide) (hU _ uF_X3_22) rfl dX3_goOn_66 ?_
          refine lv_iload_n hx hb dX3_goOn_69 rfl (lv_at hl 2 rfl) ?_
          refine lv_aload_n hx hb dX3_goOn_70 rfl (lv_at hl 0 rfl) ?_
          refine z_get hx hb hU uU_X3 hown hK hP (p_66 hW) rfl rfl 4 (by decide) (hU _ uF_X3_35) rfl dX3_goOn_71 ?_
          refine lv_aload_n hx hb dX3_goOn_74 rfl (lv_at hl 0 rfl) ?_
          refine z_get hx hb hU uU_X3 hown hK hP (p_66 hW) rfl rfl 2 (by decide) (hU _ uF_X3_28) rfl dX3_goOn_75 ?_
          refine lv_iload_n hx hb dX3_goOn_78 rfl (lv_at hl 2 rfl) ?_
          refine z_callV_i hx hb hml hown hU hK hN hP hS 1 (pR_94 hW).1 rfl rfl (zU_V uL_X3_69 uI_X2_at uS_X2_at uN_X2 uC_X2_at) yd_X2_at ⟨rfl, rfl⟩ ⟨Nat.le_of_ble_eq_true rfl, Nat.le_of_ble_eq_true rfl⟩ (As := [.int x2]) (fun o h9 => ctX2_at hq (pR_94 hW) h9) rfl hl.1 rfl (Nat.le_of_ble_eq_true rfl) dX3_goOn_79 ⟨Nat.zero_le _, Nat.zero_le _⟩ h (fun r_3 S_2 H locs hP hS h => ?_)
          refine z_callV_v hx hb hml hown hU hK hN hP hS 3 (pW_68 hW).1 rfl rfl (zU_V uL_X3_76 uI_X6_layLeg uS_X6_layLeg uN_X6 uC_X6_layLeg) yd_X6_layLeg ⟨rfl, rfl⟩ ⟨Nat.le_of_ble_eq_true rfl, Nat.le_of_ble_eq_true rfl⟩ (As := [.int x2, .int (S_1.1 66 4), .int r_3]) (fun o h9 => ctX6_layLeg hq (pW_68 hW) h9) rfl hl.1 rfl (Nat.le_of_ble_eq_true rfl) dX3_goOn_82 ⟨Nat.zero_le _, Nat.zero_le _⟩ h (fun S_4 H locs hP hS h => ?_)
          refine lv_aload_n hx hb dX3_goOn_85 rfl (lv_at hl 0 rfl) ?_
          refine z_get hx hb hU uU_X3 hown hK hP (p_66 hW) rfl rfl 0 (by decide) (hU _ uF_X3_12) rfl dX3_goOn_86 ?_
          refine lv_iload_n hx hb dX3_goOn_89 rfl (lv_at hl 2 rfl) ?_
          refine z_callV_v hx hb hml hown hU hK hN hP hS 1 (p_67 hW) rfl rfl (zU_V uL_X3_79 uI_X5_readLeg uS_X5_readLeg uN_X5 uC_X5_readLeg) yd_X5_readLeg ⟨rfl, rfl⟩ ⟨Nat.le_of_ble_eq_true rfl, Nat.le_of_ble_eq_true rfl⟩ (As := [.int x2]) (fun o h9 => ctX5_readLeg hq hW h9) rfl hl.1 rfl (Nat.le_of_ble_eq_true rfl) dX3_goOn_90 ⟨Nat.zero_le _, Nat.zero_le _⟩ h (fun S_5 H locs hP hS h => ?_)
          refine lv_iinc (v := (x2 + (-1))) (lv' := [(2, .int (x2 + (-1))), (0, .ref (q 66)), (1, .int x1)]) hx hb dX3_goOn_93 hl (k := 2) rfl rfl (by decide) rfl (fun ls hl => ?_)
          refine lv_goto (tgt := 12) hx hb dX3_goOn_96 (by decide) ?_
          exact ih12 x1 (x2 + (-1)) _ _ _ ls hP hS (lv_sub hl [1, 2, 0] rfl) h
        refine lv_istore_n (lv' := [(1, .int t0), (0, .ref (q 66)), (2, .int x2), (3, .int x3)]) hx hb dX3_goOn_47 rfl hl (by decide) rfl (fun ls hl => ?_)
        refine lv_aload_n hx hb dX3_goOn_48 rfl (lv_at hl 1 rfl) ?_
        refine z_get hx hb hU uU_X3 hown hK hP (p_66 hW) rfl rfl 2 (by decide) (hU _ uF_X3_28) rfl dX3_goOn_49 ?_
        refine lv_iload_n hx hb dX3_goOn_52 rfl (lv_at hl 2 rfl) ?_
        refine lv_iload_n hx hb dX3_goOn_53 rfl (lv_at hl 0 rfl) ?_
        refine z_if_eq (tgt := 61) hx hb dX3_goOn_54 (by decide) h (fun h => ?_) (fun h => ?_)
        · refine lv_iload_n hx hb dX3_goOn_61 rfl (lv_at hl 3 rfl) ?_
          exact L62 t0 x2 x3 x2 _ _ _ ls hP hS (lv_sub hl [1, 0, 2] rfl) h
        · refine lv_iconst (v := 0) hx hb dX3_goOn_57 rfl ?_
          refine lv_goto (tgt := 62) hx hb dX3_goOn_58 (by decide) ?_
          exact L62 t0 x2 0 x2 _ _ _ ls hP hS (lv_sub hl [1, 0, 2] rfl) h
      refine lv_iload_n hx hb dX3_goOn_12 rfl (lv_at hl 1 rfl) ?_
      refine z_if_eq (tgt := 99) hx hb dX3_goOn_13 (by decide) h (fun h => ?_) (fun h => ?_)
      · exact z_vret hx hb hlocks hP hS hQ hr dX3_goOn_99 h
      · refine lv_iload_n hx hb dX3_goOn_16 rfl (lv_at hl 2 rfl) ?_
        refine z_if_le (tgt := 99) hx hb dX3_goOn_17 (by decide) h (fun h => ?_) (fun h => ?_)
        · exact z_vret hx hb hlocks hP hS hQ hr dX3_goOn_99 h
        · refine lv_aload_n hx hb dX3_goOn_20 rfl (lv_at hl 0 rfl) ?_
          refine z_get hx hb hU uU_X3 hown hK hP (p_66 hW) rfl rfl 2 (by decide) (hU _ uF_X3_28) rfl dX3_goOn_21 ?_
          refine lv_iload_n hx hb dX3_goOn_24 rfl (lv_at hl 2 rfl) ?_
          refine z_callV_i hx hb hml hown hU hK hN hP hS 1 (pR_94 hW).1 rfl rfl (zU_V uL_X3_69 uI_X2_at uS_X2_at uN_X2 uC_X2_at) yd_X2_at ⟨rfl, rfl⟩ ⟨Nat.le_of_ble_eq_true rfl, Nat.le_of_ble_eq_true rfl⟩ (As := [.int x2]) (fun o h9 => ctX2_at hq (pR_94 hW) h9) rfl hl.1 rfl (Nat.le_of_ble_eq_true rfl) dX3_goOn_25 ⟨Nat.zero_le _, Nat.zero_le _⟩ h (fun r_7 S_6 H locs hP hS h => ?_)
          refine lv_iconst (v := 1) hx hb dX3_goOn_28 rfl ?_
          refine lv_iadd hx hb dX3_goOn_29 ?_
          refine lv_istore_n (lv' := [(3, .int (r_7 + 1)), (0, .ref (q 66)), (1, .int x1), (2, .int x2)]) hx hb dX3_goOn_30 rfl hl (by decide) rfl (fun ls hl => ?_)
          refine lv_iload_n hx hb dX3_goOn_31 rfl (lv_at hl 0 rfl) ?_
          refine lv_aload_n hx hb dX3_goOn_32 rfl (lv_at hl 1 rfl) ?_
          refine z_get hx hb hU uU_X3 hown hK hP (p_66 hW) rfl rfl 1 (by decide) (hU _ uF_X3_22) rfl dX3_goOn_33 ?_
          refine z_get hx hb hU uU_X6 hown hK hP (pW_68 hW).1 rfl rfl 6 (by decide) (hU _ uF_X3_73) rfl dX3_goOn_36 ?_
          refine z_icmp_lt (tgt := 46) hx hb dX3_goOn_39 (by decide) h (fun h => ?_) (fun h => ?_)
          · refine lv_iconst (v := 0) hx hb dX3_goOn_46 rfl ?_
            exact L47 x2 (r_7 + 1) 0 _ _ _ ls hP hS (lv_sub hl [1, 3, 0] rfl) h
          · refine lv_iconst (v := 1) hx hb dX3_goOn_42 rfl ?_
            refine lv_goto (tgt := 47) hx hb dX3_goOn_43 (by decide) ?_
            exact L47 x2 (r_7 + 1) 1 _ _ _ ls hP hS (lv_sub hl [1, 3, 0] rfl) h
  refine lv_iconst (v := 1) hx hb dX3_goOn_0 rfl ?_
  refine lv_istore_n (lv' := [(1, .int 1), (0, .ref (q 66))]) hx hb dX3_goOn_1 rfl hl (by decide) rfl (fun ls hl => ?_)
  refine lv_aload_n hx hb dX3_goOn_2 rfl (lv_at hl 1 rfl) ?_
  refine z_get hx hb hU uU_X3 hown hK hP (p_66 hW) rfl rfl 1 (by decide) (hU _ uF_X3_22) rfl dX3_goOn_3 ?_
  refine z_get hx hb hU uU_X6 hown hK hP (pW_68 hW).1 rfl rfl 0 (by decide) (hU _ uF_X3_39) rfl dX3_goOn_6 ?_
  refine lv_iconst (v := 1) hx hb dX3_goOn_9 rfl ?_
  refine lv_isub hx hb dX3_goOn_10 ?_
  refine lv_istore_n (lv' := [(2, .int ((S.1 68 0) - 1)), (1, .int 1), (0, .ref (q 66))]) hx hb dX3_goOn_11 rfl hl (by decide) rfl (fun ls hl => ?_)
  exact L12 zF 1 ((S.1 68 0) - 1) _ _ _ ls hP hS (lv_sub hl [2, 1, 0] rfl) h

def fX7_countRows_52 (k33 : Int32 → Int32 → Int32 → zT → Option (Int32 × zT)) (x3 : Int32) (x4 : Int32) (x5 : Int32) (S : zT) : Option (Int32 × zT) :=
  zbv (fX3_goOn S) fun S_1 =>
  k33 x3 x4 (x5 + 1) S_1
def fX7_countRows_33 (rec : Int32 → Int32 → Int32 → zT → Option (Int32 × zT)) (x3 : Int32) (x4 : Int32) (x5 : Int32) (S : zT) : Option (Int32 × zT) :=
  (if x3 ≤ x5 then some (x4, S) else zbi (fX5_isSteady S) fun r_3 S_2 =>
  (if r_3 = 0 then (fX7_countRows_52 rec) x3 x4 x5 S_2 else (fX7_countRows_52 rec) x3 (x4 + 1) x5 S_2))
def fX7_countRows (a1 : Int32) (a2 : Int32) (S : zT) : Option (Int32 × zT) :=
  zbi (fX7_areTold a1 a2 (S.1 68 0) S) fun r_5 S_4 =>
  (if r_5 = 0 then some ((-1), S_4) else zbi (fX3_start a1 a2 S_4) fun r_7 S_6 =>
  (zfix (fun _ _ _ _ => none) fX7_countRows_33 zF) r_7 0 0 S_6)
abbrev rmX7_countRows : Room := { frames := 6, cells := 0, slots := 0, locals := 135 }
theorem yd_X7_countRows : yX7_countRows.cls = RX7 ∧ yX7_countRows.cls ≠ "java/lang/invoke/MethodHandle" ∧ yX7_countRows.cls ≠ "java/lang/invoke/VarHandle" ∧ (parseMethodDescriptor yX7_countRows.desc).map (fun d => d.parameters.length) = some 2 := by decide +kernel
set_option maxRecDepth 100000 in
set_option maxHeartbeats 4000000 in
theorem ctX7_countRows {l : Launch} {dC : Nat → ClassId} {dI : Nat → Nat → Nat} {cI : ClassId × ClassId} {cW : List zSh} {q : Nat → Nat} (hq : zI cW q) (hW : zIs cI cW) {a1 : Int32} {a2 : Int32} {S : zT} {o : Int32 × zT} (h : fX7_countRows a1 a2 S = some o) : zCi l dC dI cI cW q yX7_countRows (Cond.code yX7_countRows cX7_countRows 6 (some .int) :: zU) rmX7_countRows [.ref (q 0), .int a1, .int a2] S o := by
  refine zMet_i (lv := [(0, .ref (q 0)), (1, .int a1), (2, .int a2)]) (by decide) (Nat.le_of_ble_eq_true rfl) rfl ?_
  intro p e s m args below meth c Q hx hb hml hr hU hown hlocks hK hN hP hS ls hl hQ
  replace hown : s.vm.findClass RX7 = some m.cls := hown
  unfold fX7_countRows at h
  have L33 : ∀ (n33 : Nat) (x3 : Int32) (x4 : Int32) (x5 : Int32) (S : zT) (H : Heap) (locs : List Loc) (ls : Array Slot), va_P (dC, dI) vwCl (zWd cI cW q S) H → va_S (zA cW q) s.heap H locs → lv_has ls 6 [(0, .ref (q 0)), (3, .int x3), (4, .int x4), (5, .int x5)] → (zfix (fun _ _ _ _ => none) fX7_countRows_33 n33) x3 x4 x5 S = some o → W p l e rmX7_countRows s m args below meth c H locs 0 0 Q (F0 m 33 ls []) := by
    intro n33
    induction n33 with
    | zero => intro x3 x4 x5 S H locs ls hP hS hl h; exact zno (show (none : Option (Int32 × zT)) = some o from h)
    | succ n33 ih33 =>
      intro x3 x4 x5 S H locs ls hP hS hl h
      replace h : fX7_countRows_33 (zfix (fun _ _ _ _ => none) fX7_countRows_33 n33) x3 x4 x5 S = some o := h
      unfold fX7_countRows_33 at h
      have L52 : ∀ (x3 : Int32) (x4 : Int32) (x5 : Int32) (S : zT) (H : Heap) (locs : List Loc) (ls : Array Slot), va_P (dC, dI) vwCl (zWd cI cW q S) H → va_S (zA cW q) s.heap H locs → lv_has ls 6 [(0, .ref (q 0)), (3, .int x3), (4, .int x4), (5, .int x5)] → (fX7_countRows_52 (zfix (fun _ _ _ _ => none) fX7_countRows_33 n33)) x3 x4 x5 S = some o → W p l e rmX7_countRows s m args below meth c H locs 0 0 Q (F0 m 52 ls []) := by
        intro x3 x4 x5 S H locs ls hP hS hl h
        unfold fX7_countRows_52 at h
        refine lv_aload_n hx hb dX7_countRows_52 rfl (lv_at hl 0 rfl) ?_
        refine z_get hx hb hU uU_X7 hown hK hP (p_0 hW) rfl rfl 2 (by decide) (hU _ uF_X7_26) rfl dX7_countRows_53 ?_
        refine z_callV_v hx hb hml hown hU hK hN hP hS 0 (p_66 hW) rfl rfl (zU_V uL_X7_200 uI_X3_goOn uS_X3_goOn uN_X3 uC_X3_goOn) yd_X3_goOn ⟨rfl, rfl⟩ ⟨Nat.le_of_ble_eq_true rfl, Nat.le_of_ble_eq_true rfl⟩ (As := []) (fun o h9 => ctX3_goOn hq hW h9) rfl hl.1 rfl (Nat.le_of_ble_eq_true rfl) dX7_countRows_56 ⟨Nat.zero_le _, Nat.zero_le _⟩ h (fun S_1 H locs hP hS h => ?_)
        refine lv_iinc (v := (x5 + 1)) (lv' := [(5, .int (x5 + 1)), (0, .ref (q 0)), (3, .int x3), (4, .int x4)]) hx hb dX7_countRows_59 hl (k := 3) rfl rfl (by decide) rfl (fun ls hl => ?_)
        refine lv_goto (tgt := 33) hx hb dX7_countRows_62 (by decide) ?_
        exact ih33 x3 x4 (x5 + 1) _ _ _ ls hP hS (lv_sub hl [1, 2, 3, 0] rfl) h
      refine lv_iload hx hb dX7_countRows_33 (lv_at hl 3 rfl) ?_
      refine lv_iload_n hx hb dX7_countRows_35 rfl (lv_at hl 1 rfl) ?_
      refine z_icmp_ge (tgt := 65) hx hb dX7_countRows_36 (by decide) h (fun h => ?_) (fun h => ?_)
      · refine lv_iload hx hb dX7_countRows_65 (lv_at hl 2 rfl) ?_
        exact z_iret hx hb hlocks hP hS hQ hr dX7_countRows_67 h
      · refine lv_aload_n hx hb dX7_countRows_39 rfl (lv_at hl 0 rfl) ?_
        refine z_get hx hb hU uU_X7 hown hK hP (p_0 hW) rfl rfl 3 (by decide) (hU _ uF_X7_34) rfl dX7_countRows_40 ?_
        refine z_callV_i hx hb hml hown hU hK hN hP hS 0 (p_67 hW) rfl rfl (zU_V uL_X7_160 uI_X5_isSteady uS_X5_isSteady uN_X5 uC_X5_isSteady) yd_X5_isSteady ⟨rfl, rfl⟩ ⟨Nat.le_of_ble_eq_true rfl, Nat.le_of_ble_eq_true rfl⟩ (As := []) (fun o h9 => ctX5_isSteady hq hW h9) rfl hl.1 rfl (Nat.le_of_ble_eq_true rfl) dX7_countRows_43 ⟨Nat.zero_le _, Nat.zero_le _⟩ h (fun r_3 S_2 H locs hP hS h => ?_)
        refine z_if_eq (tgt := 52) hx hb dX7_countRows_46 (by decide) h (fun h => ?_) (fun h => ?_)
        · exact L52 x3 x4 x5 _ _ _ ls hP hS (lv_sub hl [0, 1, 2, 3] rfl) h
        · refine lv_iinc (v := (x4 + 1)) (lv' := [(4, .int (x4 + 1)), (0, .ref (q 0)), (3, .int x3), (5, .int x5)]) hx hb dX7_countRows_49 hl (k := 2) rfl rfl (by decide) rfl (fun ls hl => ?_)
          exact L52 x3 (x4 + 1) x5 _ _ _ ls hP hS (lv_sub hl [1, 2, 0, 3] rfl) h
  refine lv_iload_n hx hb dX7_countRows_0 rfl (lv_at hl 1 rfl) ?_
  refine lv_iload_n hx hb dX7_countRows_1 rfl (lv_at hl 2 rfl) ?_
  refine lv_aload_n hx hb dX7_countRows_2 rfl (lv_at hl 0 rfl) ?_
  refine z_get hx hb hU uU_X7 hown hK hP (p_0 hW) rfl rfl 4 (by decide) (hU _ uF_X7_40) rfl dX7_countRows_3 ?_
  refine z_get hx hb hU uU_X6 hown hK hP (pW_68 hW).1 rfl rfl 0 (by decide) (hU _ uF_X7_124) rfl dX7_countRows_6 ?_
  refine z_callS_i hx hb hml hown hU hK hN hP hS 3 (zU_J uL_X7_191 uT_X7_areTold uN_X7 uC_X7_areTold) yd_X7_areTold ⟨rfl, rfl⟩ ⟨Nat.le_of_ble_eq_true rfl, Nat.le_of_ble_eq_true rfl⟩ (As := [.int a1, .int a2, .int (S.1 68 0)]) (fun o h9 => ctX7_areTold hq  h9) rfl hl.1 rfl (Nat.le_of_ble_eq_true rfl) dX7_countRows_9 ⟨Nat.zero_le _, Nat.zero_le _⟩ h (fun r_5 S_4 H locs hP hS h => ?_)
  refine z_if_ne (tgt := 17) hx hb dX7_countRows_12 (by decide) h (fun h => ?_) (fun h => ?_)
  · refine lv_aload_n hx hb dX7_countRows_17 rfl (lv_at hl 0 rfl) ?_
    refine z_get hx hb hU uU_X7 hown hK hP (p_0 hW) rfl rfl 2 (by decide) (hU _ uF_X7_26) rfl dX7_countRows_18 ?_
    refine lv_iload_n hx hb dX7_countRows_21 rfl (lv_at hl 1 rfl) ?_
    refine lv_iload_n hx hb dX7_countRows_22 rfl (lv_at hl 2 rfl) ?_
    refine z_callV_i hx hb hml hown hU hK hN hP hS 2 (p_66 hW) rfl rfl (zU_V uL_X7_194 uI_X3_start uS_X3_start uN_X3 uC_X3_start) yd_X3_start ⟨rfl, rfl⟩ ⟨Nat.le_of_ble_eq_true rfl, Nat.le_of_ble_eq_true rfl⟩ (As := [.int a1, .int a2]) (fun o h9 => ctX3_start hq hW h9) rfl hl.1 rfl (Nat.le_of_ble_eq_true rfl) dX7_countRows_23 ⟨Nat.zero_le _, Nat.zero_le _⟩ h (fun r_7 S_6 H locs hP hS h => ?_)
    refine lv_istore_n (lv' := [(3, .int r_7), (0, .ref (q 0)), (1, .int a1), (2, .int a2)]) hx hb dX7_countRows_26 rfl hl (by decide) rfl (fun ls hl => ?_)
    refine lv_iconst (v := 0) hx hb dX7_countRows_27 rfl ?_
    refine lv_istore (lv' := [(4, .int 0), (3, .int r_7), (0, .ref (q 0)), (1, .int a1), (2, .int a2)]) hx hb dX7_countRows_28 hl (by decide) rfl (fun ls hl => ?_)
    refine lv_iconst (v := 0) hx hb dX7_countRows_30 rfl ?_
    refine lv_istore (lv' := [(5, .int 0), (4, .int 0), (3, .int r_7), (0, .ref (q 0)), (1, .int a1), (2, .int a2)]) hx hb dX7_countRows_31 hl (by decide) rfl (fun ls hl => ?_)
    exact L33 zF r_7 0 0 _ _ _ ls hP hS (lv_sub hl [3, 2, 1, 0] rfl) h
  · refine lv_iconst (v := (-1)) hx hb dX7_countRows_15 rfl ?_
    exact z_iret hx hb hlocks hP hS hQ hr dX7_countRows_16 h

def fX7_many (a1 : Int32) (a2 : Int32) (S : zT) : Option (Int32 × zT) :=
  zbv (fX6_copyFrom 68 1 S) fun S_1 =>
  zbi (fX7_countRows a1 a2 S_1) fun r_3 S_2 =>
  some (r_3, S_2)
abbrev rmX7_many : Room := { frames := 7, cells := 0, slots := 0, locals := 160 }
theorem yd_X7_many : yX7_many.cls = RX7 ∧ yX7_many.cls ≠ "java/lang/invoke/MethodHandle" ∧ yX7_many.cls ≠ "java/lang/invoke/VarHandle" ∧ (parseMethodDescriptor yX7_many.desc).map (fun d => d.parameters.length) = some 2 := by decide +kernel
set_option maxRecDepth 100000 in
set_option maxHeartbeats 4000000 in
theorem ctX7_many {l : Launch} {dC : Nat → ClassId} {dI : Nat → Nat → Nat} {cI : ClassId × ClassId} {cW : List zSh} {q : Nat → Nat} (hq : zI cW q) (hW : zIs cI cW) {a1 : Int32} {a2 : Int32} {S : zT} {o : Int32 × zT} (h : fX7_many a1 a2 S = some o) : zCi l dC dI cI cW q yX7_many (Cond.code yX7_many cX7_many 3 (some .int) :: zU) rmX7_many [.ref (q 0), .int a1, .int a2] S o := by
  refine zMet_i (lv := [(0, .ref (q 0)), (1, .int a1), (2, .int a2)]) (by decide) (Nat.le_of_ble_eq_true rfl) rfl ?_
  intro p e s m args below meth c Q hx hb hml hr hU hown hlocks hK hN hP hS ls hl hQ
  replace hown : s.vm.findClass RX7 = some m.cls := hown
  unfold fX7_many at h
  refine lv_aload_n hx hb dX7_many_0 rfl (lv_at hl 0 rfl) ?_
  refine z_get hx hb hU uU_X7 hown hK hP (p_0 hW) rfl rfl 4 (by decide) (hU _ uF_X7_40) rfl dX7_many_1 ?_
  refine lv_aload_n hx hb dX7_many_4 rfl (lv_at hl 0 rfl) ?_
  refine z_get hx hb hU uU_X7 hown hK hP (p_0 hW) rfl rfl 0 (by decide) (hU _ uF_X7_12) rfl dX7_many_5 ?_
  refine z_callV_v hx hb hml hown hU hK hN hP hS 1 (pW_68 hW).1 rfl rfl (zU_V uL_X7_185 uI_X6_copyFrom uS_X6_copyFrom uN_X6 uC_X6_copyFrom) yd_X6_copyFrom ⟨rfl, rfl⟩ ⟨Nat.le_of_ble_eq_true rfl, Nat.le_of_ble_eq_true rfl⟩ (As := [.ref (q 1)]) (fun o h9 => ctX6_copyFrom hq (pW_68 hW) (pW_1 hW) h9) rfl hl.1 rfl (Nat.le_of_ble_eq_true rfl) dX7_many_8 ⟨Nat.zero_le _, Nat.zero_le _⟩ h (fun S_1 H locs hP hS h => ?_)
  refine lv_aload_n hx hb dX7_many_11 rfl (lv_at hl 0 rfl) ?_
  refine lv_iload_n hx hb dX7_many_12 rfl (lv_at hl 1 rfl) ?_
  refine lv_iload_n hx hb dX7_many_13 rfl (lv_at hl 2 rfl) ?_
  refine z_callV_i hx hb hml hown hU hK hN hP hS 2 (p_0 hW) rfl rfl (zU_V uL_X7_188 uI_X7_countRows uS_X7_countRows uN_X7 uC_X7_countRows) yd_X7_countRows ⟨rfl, rfl⟩ ⟨Nat.le_of_ble_eq_true rfl, Nat.le_of_ble_eq_true rfl⟩ (As := [.int a1, .int a2]) (fun o h9 => ctX7_countRows hq hW h9) rfl hl.1 rfl (Nat.le_of_ble_eq_true rfl) dX7_many_14 ⟨Nat.zero_le _, Nat.zero_le _⟩ h (fun r_3 S_2 H locs hP hS h => ?_)
  exact z_iret hx hb hlocks hP hS hQ hr dX7_many_17 h

def fX3_packedOffsets_4 (rec : Int32 → Int32 → zT → Option (Int32 × zT)) (x1 : Int32) (x2 : Int32) (S : zT) : Option (Int32 × zT) :=
  (if (S.1 68 0) ≤ x2 then some (x1, S) else zbi (fX2_at 94 8 x2 S) fun r_2 S_1 =>
  rec (x1 ||| (zshl r_2 (4 * x2))) (x2 + 1) S_1)
def fX3_packedOffsets (S : zT) : Option (Int32 × zT) :=
  (zfix (fun _ _ _ => none) fX3_packedOffsets_4 zF) 0 1 S
abbrev rmX3_packedOffsets : Room := { frames := 1, cells := 0, slots := 0, locals := 21 }
theorem yd_X3_packedOffsets : yX3_packedOffsets.cls = RX3 ∧ yX3_packedOffsets.cls ≠ "java/lang/invoke/MethodHandle" ∧ yX3_packedOffsets.cls ≠ "java/lang/invoke/VarHandle" ∧ (parseMethodDescriptor yX3_packedOffsets.desc).map (fun d => d.parameters.length) = some 0 := by decide +kernel
set_option maxRecDepth 100000 in
set_option maxHeartbeats 4000000 in
theorem ctX3_packedOffsets {l : Launch} {dC : Nat → ClassId} {dI : Nat → Nat → Nat} {cI : ClassId × ClassId} {cW : List zSh} {q : Nat → Nat} (hq : zI cW q) (hW : zIs cI cW) {S : zT} {o : Int32 × zT} (h : fX3_packedOffsets S = some o) : zCi l dC dI cI cW q yX3_packedOffsets (Cond.code yX3_packedOffsets cX3_packedOffsets 3 (some .int) :: zU) rmX3_packedOffsets [.ref (q 66)] S o := by
  refine zMet_i (lv := [(0, .ref (q 66))]) (by decide) (Nat.le_of_ble_eq_true rfl) rfl ?_
  intro p e s m args below meth c Q hx hb hml hr hU hown hlocks hK hN hP hS ls hl hQ
  replace hown : s.vm.findClass RX3 = some m.cls := hown
  unfold fX3_packedOffsets at h
  have L4 : ∀ (n4 : Nat) (x1 : Int32) (x2 : Int32) (S : zT) (H : Heap) (locs : List Loc) (ls : Array Slot), va_P (dC, dI) vwCl (zWd cI cW q S) H → va_S (zA cW q) s.heap H locs → lv_has ls 3 [(0, .ref (q 66)), (1, .int x1), (2, .int x2)] → (zfix (fun _ _ _ => none) fX3_packedOffsets_4 n4) x1 x2 S = some o → W p l e rmX3_packedOffsets s m args below meth c H locs 0 0 Q (F0 m 4 ls []) := by
    intro n4
    induction n4 with
    | zero => intro x1 x2 S H locs ls hP hS hl h; exact zno (show (none : Option (Int32 × zT)) = some o from h)
    | succ n4 ih4 =>
      intro x1 x2 S H locs ls hP hS hl h
      replace h : fX3_packedOffsets_4 (zfix (fun _ _ _ => none) fX3_packedOffsets_4 n4) x1 x2 S = some o := h
      unfold fX3_packedOffsets_4 at h
      refine lv_iload_n hx hb dX3_packedOffsets_4 rfl (lv_at hl 2 rfl) ?_
      refine lv_aload_n hx hb dX3_packedOffsets_5 rfl (lv_at hl 0 rfl) ?_
      refine z_get hx hb hU uU_X3 hown hK hP (p_66 hW) rfl rfl 1 (by decide) (hU _ uF_X3_22) rfl dX3_packedOffsets_6 ?_
      refine z_get hx hb hU uU_X6 hown hK hP (pW_68 hW).1 rfl rfl 0 (by decide) (hU _ uF_X3_39) rfl dX3_packedOffsets_9 ?_
      refine z_icmp_ge (tgt := 36) hx hb dX3_packedOffsets_12 (by decide) h (fun h => ?_) (fun h => ?_)
      · refine lv_iload_n hx hb dX3_packedOffsets_36 rfl (lv_at hl 1 rfl) ?_
        exact z_iret hx hb hlocks hP hS hQ hr dX3_packedOffsets_37 h
      · refine lv_iload_n hx hb dX3_packedOffsets_15 rfl (lv_at hl 1 rfl) ?_
        refine lv_aload_n hx hb dX3_packedOffsets_16 rfl (lv_at hl 0 rfl) ?_
        refine z_get hx hb hU uU_X3 hown hK hP (p_66 hW) rfl rfl 2 (by decide) (hU _ uF_X3_28) rfl dX3_packedOffsets_17 ?_
        refine lv_iload_n hx hb dX3_packedOffsets_20 rfl (lv_at hl 2 rfl) ?_
        refine z_callV_i hx hb hml hown hU hK hN hP hS 1 (pR_94 hW).1 rfl rfl (zU_V uL_X3_69 uI_X2_at uS_X2_at uN_X2 uC_X2_at) yd_X2_at ⟨rfl, rfl⟩ ⟨Nat.le_of_ble_eq_true rfl, Nat.le_of_ble_eq_true rfl⟩ (As := [.int x2]) (fun o h9 => ctX2_at hq (pR_94 hW) h9) rfl hl.1 rfl (Nat.le_of_ble_eq_true rfl) dX3_packedOffsets_21 ⟨Nat.zero_le _, Nat.zero_le _⟩ h (fun r_2 S_1 H locs hP hS h => ?_)
        refine lv_iconst (v := 4) hx hb dX3_packedOffsets_24 rfl ?_
        refine lv_iload_n hx hb dX3_packedOffsets_25 rfl (lv_at hl 2 rfl) ?_
        refine lv_imul hx hb dX3_packedOffsets_26 ?_
        refine lv_ishl hx hb dX3_packedOffsets_27 ?_
        refine lv_ior hx hb dX3_packedOffsets_28 ?_
        refine lv_istore_n (lv' := [(1, .int (x1 ||| (zshl r_2 (4 * x2)))), (0, .ref (q 66)), (2, .int x2)]) hx hb dX3_packedOffsets_29 rfl hl (by decide) rfl (fun ls hl => ?_)
        refine lv_iinc (v := (x2 + 1)) (lv' := [(2, .int (x2 + 1)), (1, .int (x1 ||| (zshl r_2 (4 * x2)))), (0, .ref (q 66))]) hx hb dX3_packedOffsets_30 hl (k := 2) rfl rfl (by decide) rfl (fun ls hl => ?_)
        refine lv_goto (tgt := 4) hx hb dX3_packedOffsets_33 (by decide) ?_
        exact ih4 (x1 ||| (zshl r_2 (4 * x2))) (x2 + 1) _ _ _ ls hP hS (lv_sub hl [2, 1, 0] rfl) h
  refine lv_iconst (v := 0) hx hb dX3_packedOffsets_0 rfl ?_
  refine lv_istore_n (lv' := [(1, .int 0), (0, .ref (q 66))]) hx hb dX3_packedOffsets_1 rfl hl (by decide) rfl (fun ls hl => ?_)
  refine lv_iconst (v := 1) hx hb dX3_packedOffsets_2 rfl ?_
  refine lv_istore_n (lv' := [(2, .int 1), (1, .int 0), (0, .ref (q 66))]) hx hb dX3_packedOffsets_3 rfl hl (by decide) rfl (fun ls hl => ?_)
  exact L4 zF 0 1 _ _ _ ls hP hS (lv_sub hl [2, 1, 0] rfl) h

def fX7_pick_104 (k49 : Int32 → Int32 → Int32 → Int32 → Int32 → Int32 → zT → Option (Int32 × zT)) (x1 : Int32) (x2 : Int32) (x3 : Int32) (x4 : Int32) (x5 : Int32) (x6 : Int32) (S : zT) : Option (Int32 × zT) :=
  zbv (fX3_goOn S) fun S_1 =>
  k49 x1 x2 x3 x4 x5 (x6 + 1) S_1
def fX7_pick_49 (rec : Int32 → Int32 → Int32 → Int32 → Int32 → Int32 → zT → Option (Int32 × zT)) (x1 : Int32) (x2 : Int32) (x3 : Int32) (x4 : Int32) (x5 : Int32) (x6 : Int32) (S : zT) : Option (Int32 × zT) :=
  (if x4 ≤ x6 then some (0, S) else zbi (fX5_isSteady S) fun r_3 S_2 =>
  (if r_3 = 0 then (fX7_pick_104 rec) x1 x2 x3 x4 x5 x6 S_2 else (if x5 = x3 then zbv (fX0_keep 1 S_2) fun S_4 =>
  zbi (fX3_packedOffsets S_4) fun r_6 S_5 =>
  zbv (fX6_layRow 1 x1 x2 r_6 S_5) fun S_7 =>
  some (1, S_7) else (fX7_pick_104 rec) x1 x2 x3 x4 (x5 + 1) x6 S_2)))
def fX7_pick (a1 : Int32) (a2 : Int32) (a3 : Int32) (S : zT) : Option (Int32 × zT) :=
  (if a3 < 0 then some (0, S) else zbi (fX7_areTold a1 a2 (S.1 1 0) S) fun r_9 S_8 =>
  (if r_9 = 0 then some (0, S_8) else zbv (fX6_copyFrom 68 1 S_8) fun S_10 =>
  zbi (fX3_start a1 a2 S_10) fun r_12 S_11 =>
  (zfix (fun _ _ _ _ _ _ _ => none) fX7_pick_49 zF) a1 a2 a3 r_12 0 0 S_11))
abbrev rmX7_pick : Room := { frames := 6, cells := 0, slots := 0, locals := 135 }
theorem yd_X7_pick : yX7_pick.cls = RX7 ∧ yX7_pick.cls ≠ "java/lang/invoke/MethodHandle" ∧ yX7_pick.cls ≠ "java/lang/invoke/VarHandle" ∧ (parseMethodDescriptor yX7_pick.desc).map (fun d => d.parameters.length) = some 3 := by decide +kernel
set_option maxRecDepth 100000 in
set_option maxHeartbeats 4000000 in
theorem ctX7_pick {l : Launch} {dC : Nat → ClassId} {dI : Nat → Nat → Nat} {cI : ClassId × ClassId} {cW : List zSh} {q : Nat → Nat} (hq : zI cW q) (hW : zIs cI cW) {a1 : Int32} {a2 : Int32} {a3 : Int32} {S : zT} {o : Int32 × zT} (h : fX7_pick a1 a2 a3 S = some o) : zCi l dC dI cI cW q yX7_pick (Cond.code yX7_pick cX7_pick 7 (some .boolean) :: zU) rmX7_pick [.ref (q 0), .int a1, .int a2, .int a3] S o := by
  refine zMet_i (lv := [(0, .ref (q 0)), (1, .int a1), (2, .int a2), (3, .int a3)]) (by decide) (Nat.le_of_ble_eq_true rfl) rfl ?_
  intro p e s m args below meth c Q hx hb hml hr hU hown hlocks hK hN hP hS ls hl hQ
  replace hown : s.vm.findClass RX7 = some m.cls := hown
  unfold fX7_pick at h
  have L49 : ∀ (n49 : Nat) (x1 : Int32) (x2 : Int32) (x3 : Int32) (x4 : Int32) (x5 : Int32) (x6 : Int32) (S : zT) (H : Heap) (locs : List Loc) (ls : Array Slot), va_P (dC, dI) vwCl (zWd cI cW q S) H → va_S (zA cW q) s.heap H locs → lv_has ls 7 [(0, .ref (q 0)), (1, .int x1), (2, .int x2), (3, .int x3), (4, .int x4), (5, .int x5), (6, .int x6)] → (zfix (fun _ _ _ _ _ _ _ => none) fX7_pick_49 n49) x1 x2 x3 x4 x5 x6 S = some o → W p l e rmX7_pick s m args below meth c H locs 0 0 Q (F0 m 49 ls []) := by
    intro n49
    induction n49 with
    | zero => intro x1 x2 x3 x4 x5 x6 S H locs ls hP hS hl h; exact zno (show (none : Option (Int32 × zT)) = some o from h)
    | succ n49 ih49 =>
      intro x1 x2 x3 x4 x5 x6 S H locs ls hP hS hl h
      replace h : fX7_pick_49 (zfix (fun _ _ _ _ _ _ _ => none) fX7_pick_49 n49) x1 x2 x3 x4 x5 x6 S = some o := h
      unfold fX7_pick_49 at h
      have L104 : ∀ (x1 : Int32) (x2 : Int32) (x3 : Int32) (x4 : Int32) (x5 : Int32) (x6 : Int32) (S : zT) (H : Heap) (locs : List Loc) (ls : Array Slot), va_P (dC, dI) vwCl (zWd cI cW q S) H → va_S (zA cW q) s.heap H locs → lv_has ls 7 [(0, .ref (q 0)), (1, .int x1), (2, .int x2), (3, .int x3), (4, .int x4), (5, .int x5), (6, .int x6)] → (fX7_pick_104 (zfix (fun _ _ _ _ _ _ _ => none) fX7_pick_49 n49)) x1 x2 x3 x4 x5 x6 S = some o → W p l e rmX7_pick s m args below meth c H locs 0 0 Q (F0 m 104 ls []) := by
        intro x1 x2 x3 x4 x5 x6 S H locs ls hP hS hl h
        unfold fX7_pick_104 at h
        refine lv_aload_n hx hb dX7_pick_104 rfl (lv_at hl 0 rfl) ?_
        refine z_get hx hb hU uU_X7 hown hK hP (p_0 hW) rfl rfl 2 (by decide) (hU _ uF_X7_26) rfl dX7_pick_105 ?_
        refine z_callV_v hx hb hml hown hU hK hN hP hS 0 (p_66 hW) rfl rfl (zU_V uL_X7_200 uI_X3_goOn uS_X3_goOn uN_X3 uC_X3_goOn) yd_X3_goOn ⟨rfl, rfl⟩ ⟨Nat.le_of_ble_eq_true rfl, Nat.le_of_ble_eq_true rfl⟩ (As := []) (fun o h9 => ctX3_goOn hq hW h9) rfl hl.1 rfl (Nat.le_of_ble_eq_true rfl) dX7_pick_108 ⟨Nat.zero_le _, Nat.zero_le _⟩ h (fun S_1 H locs hP hS h => ?_)
        refine lv_iinc (v := (x6 + 1)) (lv' := [(6, .int (x6 + 1)), (0, .ref (q 0)), (1, .int x1), (2, .int x2), (3, .int x3), (4, .int x4), (5, .int x5)]) hx hb dX7_pick_111 hl (k := 6) rfl rfl (by decide) rfl (fun ls hl => ?_)
        refine lv_goto (tgt := 49) hx hb dX7_pick_114 (by decide) ?_
        exact ih49 x1 x2 x3 x4 x5 (x6 + 1) _ _ _ ls hP hS (lv_sub hl [1, 2, 3, 4, 5, 6, 0] rfl) h
      refine lv_iload hx hb dX7_pick_49 (lv_at hl 6 rfl) ?_
      refine lv_iload hx hb dX7_pick_51 (lv_at hl 4 rfl) ?_
      refine z_icmp_ge (tgt := 117) hx hb dX7_pick_53 (by decide) h (fun h => ?_) (fun h => ?_)
      · refine lv_iconst (v := 0) hx hb dX7_pick_117 rfl ?_
        exact z_zretC hx hb hlocks hP hS hQ hr dX7_pick_118 (Or.inl rfl) h
      · refine lv_aload_n hx hb dX7_pick_56 rfl (lv_at hl 0 rfl) ?_
        refine z_get hx hb hU uU_X7 hown hK hP (p_0 hW) rfl rfl 3 (by decide) (hU _ uF_X7_34) rfl dX7_pick_57 ?_
        refine z_callV_i hx hb hml hown hU hK hN hP hS 0 (p_67 hW) rfl rfl (zU_V uL_X7_160 uI_X5_isSteady uS_X5_isSteady uN_X5 uC_X5_isSteady) yd_X5_isSteady ⟨rfl, rfl⟩ ⟨Nat.le_of_ble_eq_true rfl, Nat.le_of_ble_eq_true rfl⟩ (As := []) (fun o h9 => ctX5_isSteady hq hW h9) rfl hl.1 rfl (Nat.le_of_ble_eq_true rfl) dX7_pick_60 ⟨Nat.zero_le _, Nat.zero_le _⟩ h (fun r_3 S_2 H locs hP hS h => ?_)
        refine z_if_eq (tgt := 104) hx hb dX7_pick_63 (by decide) h (fun h => ?_) (fun h => ?_)
        · exact L104 x1 x2 x3 x4 x5 x6 _ _ _ ls hP hS (lv_sub hl [0, 1, 2, 3, 4, 5, 6] rfl) h
        · refine lv_iload hx hb dX7_pick_66 (lv_at hl 5 rfl) ?_
          refine lv_iload_n hx hb dX7_pick_68 rfl (lv_at hl 3 rfl) ?_
          refine z_icmp_ne (tgt := 101) hx hb dX7_pick_69 (by decide) h (fun h => ?_) (fun h => ?_)
          · refine lv_iinc (v := (x5 + 1)) (lv' := [(5, .int (x5 + 1)), (0, .ref (q 0)), (1, .int x1), (2, .int x2), (3, .int x3), (4, .int x4), (6, .int x6)]) hx hb dX7_pick_101 hl (k := 5) rfl rfl (by decide) rfl (fun ls hl => ?_)
            exact L104 x1 x2 x3 x4 (x5 + 1) x6 _ _ _ ls hP hS (lv_sub hl [1, 2, 3, 4, 5, 0, 6] rfl) h
          · refine lv_aload_n hx hb dX7_pick_72 rfl (lv_at hl 0 rfl) ?_
            refine z_get hx hb hU uU_X7 hown hK hP (p_0 hW) rfl rfl 1 (by decide) (hU _ uF_X7_19) rfl dX7_pick_73 ?_
            refine lv_aload_n hx hb dX7_pick_76 rfl (lv_at hl 0 rfl) ?_
            refine z_get hx hb hU uU_X7 hown hK hP (p_0 hW) rfl rfl 0 (by decide) (hU _ uF_X7_12) rfl dX7_pick_77 ?_
            refine z_callV_v hx hb hml hown hU hK hN hP hS 1 (p_8 hW) rfl rfl (zU_V uL_X7_67 uI_X0_keep uS_X0_keep uN_X0 uC_X0_keep) yd_X0_keep ⟨rfl, rfl⟩ ⟨Nat.le_of_ble_eq_true rfl, Nat.le_of_ble_eq_true rfl⟩ (As := [.ref (q 1)]) (fun o h9 => ctX0_keep hq hW (pW_1 hW) h9) rfl hl.1 rfl (Nat.le_of_ble_eq_true rfl) dX7_pick_80 ⟨Nat.zero_le _, Nat.zero_le _⟩ h (fun S_4 H locs hP hS h => ?_)
            refine lv_aload_n hx hb dX7_pick_83 rfl (lv_at hl 0 rfl) ?_
            refine z_get hx hb hU uU_X7 hown hK hP (p_0 hW) rfl rfl 0 (by decide) (hU _ uF_X7_12) rfl dX7_pick_84 ?_
            refine lv_iload_n hx hb dX7_pick_87 rfl (lv_at hl 1 rfl) ?_
            refine lv_iload_n hx hb dX7_pick_88 rfl (lv_at hl 2 rfl) ?_
            refine lv_aload_n hx hb dX7_pick_89 rfl (lv_at hl 0 rfl) ?_
            refine z_get hx hb hU uU_X7 hown hK hP (p_0 hW) rfl rfl 2 (by decide) (hU _ uF_X7_26) rfl dX7_pick_90 ?_
            refine z_callV_i hx hb hml hown hU hK hN hP hS 0 (p_66 hW) rfl rfl (zU_V uL_X7_197 uI_X3_packedOffsets uS_X3_packedOffsets uN_X3 uC_X3_packedOffsets) yd_X3_packedOffsets ⟨rfl, rfl⟩ ⟨Nat.le_of_ble_eq_true rfl, Nat.le_of_ble_eq_true rfl⟩ (As := []) (fun o h9 => ctX3_packedOffsets hq hW h9) rfl hl.1 rfl (Nat.le_of_ble_eq_true rfl) dX7_pick_93 ⟨Nat.zero_le _, Nat.zero_le _⟩ h (fun r_6 S_5 H locs hP hS h => ?_)
            refine z_callV_v hx hb hml hown hU hK hN hP hS 3 (pW_1 hW).1 rfl rfl (zU_V uL_X7_130 uI_X6_layRow uS_X6_layRow uN_X6 uC_X6_layRow) yd_X6_layRow ⟨rfl, rfl⟩ ⟨Nat.le_of_ble_eq_true rfl, Nat.le_of_ble_eq_true rfl⟩ (As := [.int x1, .int x2, .int r_6]) (fun o h9 => ctX6_layRow hq (pW_1 hW) h9) rfl hl.1 rfl (Nat.le_of_ble_eq_true rfl) dX7_pick_96 ⟨Nat.zero_le _, Nat.zero_le _⟩ h (fun S_7 H locs hP hS h => ?_)
            refine lv_iconst (v := 1) hx hb dX7_pick_99 rfl ?_
            exact z_zretC hx hb hlocks hP hS hQ hr dX7_pick_100 (Or.inr rfl) h
  refine lv_iload_n hx hb dX7_pick_0 rfl (lv_at hl 3 rfl) ?_
  refine z_if_lt (tgt := 19) hx hb dX7_pick_1 (by decide) h (fun h => ?_) (fun h => ?_)
  · refine lv_iconst (v := 0) hx hb dX7_pick_19 rfl ?_
    exact z_zretC hx hb hlocks hP hS hQ hr dX7_pick_20 (Or.inl rfl) h
  · refine lv_iload_n hx hb dX7_pick_4 rfl (lv_at hl 1 rfl) ?_
    refine lv_iload_n hx hb dX7_pick_5 rfl (lv_at hl 2 rfl) ?_
    refine lv_aload_n hx hb dX7_pick_6 rfl (lv_at hl 0 rfl) ?_
    refine z_get hx hb hU uU_X7 hown hK hP (p_0 hW) rfl rfl 0 (by decide) (hU _ uF_X7_12) rfl dX7_pick_7 ?_
    refine z_get hx hb hU uU_X6 hown hK hP (pW_1 hW).1 rfl rfl 0 (by decide) (hU _ uF_X7_124) rfl dX7_pick_10 ?_
    refine z_callS_i hx hb hml hown hU hK hN hP hS 3 (zU_J uL_X7_191 uT_X7_areTold uN_X7 uC_X7_areTold) yd_X7_areTold ⟨rfl, rfl⟩ ⟨Nat.le_of_ble_eq_true rfl, Nat.le_of_ble_eq_true rfl⟩ (As := [.int a1, .int a2, .int (S.1 1 0)]) (fun o h9 => ctX7_areTold hq  h9) rfl hl.1 rfl (Nat.le_of_ble_eq_true rfl) dX7_pick_13 ⟨Nat.zero_le _, Nat.zero_le _⟩ h (fun r_9 S_8 H locs hP hS h => ?_)
    refine z_if_ne (tgt := 21) hx hb dX7_pick_16 (by decide) h (fun h => ?_) (fun h => ?_)
    · refine lv_aload_n hx hb dX7_pick_21 rfl (lv_at hl 0 rfl) ?_
      refine z_get hx hb hU uU_X7 hown hK hP (p_0 hW) rfl rfl 4 (by decide) (hU _ uF_X7_40) rfl dX7_pick_22 ?_
      refine lv_aload_n hx hb dX7_pick_25 rfl (lv_at hl 0 rfl) ?_
      refine z_get hx hb hU uU_X7 hown hK hP (p_0 hW) rfl rfl 0 (by decide) (hU _ uF_X7_12) rfl dX7_pick_26 ?_
      refine z_callV_v hx hb hml hown hU hK hN hP hS 1 (pW_68 hW).1 rfl rfl (zU_V uL_X7_185 uI_X6_copyFrom uS_X6_copyFrom uN_X6 uC_X6_copyFrom) yd_X6_copyFrom ⟨rfl, rfl⟩ ⟨Nat.le_of_ble_eq_true rfl, Nat.le_of_ble_eq_true rfl⟩ (As := [.ref (q 1)]) (fun o h9 => ctX6_copyFrom hq (pW_68 hW) (pW_1 hW) h9) rfl hl.1 rfl (Nat.le_of_ble_eq_true rfl) dX7_pick_29 ⟨Nat.zero_le _, Nat.zero_le _⟩ h (fun S_10 H locs hP hS h => ?_)
      refine lv_aload_n hx hb dX7_pick_32 rfl (lv_at hl 0 rfl) ?_
      refine z_get hx hb hU uU_X7 hown hK hP (p_0 hW) rfl rfl 2 (by decide) (hU _ uF_X7_26) rfl dX7_pick_33 ?_
      refine lv_iload_n hx hb dX7_pick_36 rfl (lv_at hl 1 rfl) ?_
      refine lv_iload_n hx hb dX7_pick_37 rfl (lv_at hl 2 rfl) ?_
      refine z_callV_i hx hb hml hown hU hK hN hP hS 2 (p_66 hW) rfl rfl (zU_V uL_X7_194 uI_X3_start uS_X3_start uN_X3 uC_X3_start) yd_X3_start ⟨rfl, rfl⟩ ⟨Nat.le_of_ble_eq_true rfl, Nat.le_of_ble_eq_true rfl⟩ (As := [.int a1, .int a2]) (fun o h9 => ctX3_start hq hW h9) rfl hl.1 rfl (Nat.le_of_ble_eq_true rfl) dX7_pick_38 ⟨Nat.zero_le _, Nat.zero_le _⟩ h (fun r_12 S_11 H locs hP hS h => ?_)
      refine lv_istore (lv' := [(4, .int r_12), (0, .ref (q 0)), (1, .int a1), (2, .int a2), (3, .int a3)]) hx hb dX7_pick_41 hl (by decide) rfl (fun ls hl => ?_)
      refine lv_iconst (v := 0) hx hb dX7_pick_43 rfl ?_
      refine lv_istore (lv' := [(5, .int 0), (4, .int r_12), (0, .ref (q 0)), (1, .int a1), (2, .int a2), (3, .int a3)]) hx hb dX7_pick_44 hl (by decide) rfl (fun ls hl => ?_)
      refine lv_iconst (v := 0) hx hb dX7_pick_46 rfl ?_
      refine lv_istore (lv' := [(6, .int 0), (5, .int 0), (4, .int r_12), (0, .ref (q 0)), (1, .int a1), (2, .int a2), (3, .int a3)]) hx hb dX7_pick_47 hl (by decide) rfl (fun ls hl => ?_)
      exact L49 zF a1 a2 a3 r_12 0 0 _ _ _ ls hP hS (lv_sub hl [3, 4, 5, 6, 2, 1, 0] rfl) h
    · refine lv_iconst (v := 0) hx hb dX7_pick_19 rfl ?_
      exact z_zretC hx hb hlocks hP hS hQ hr dX7_pick_20 (Or.inl rfl) h

