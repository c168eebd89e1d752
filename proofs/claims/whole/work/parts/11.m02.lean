def fX7_tick (a1 : Int32) (a2 : Int32) (S : zT) : Option (Int32 × zT) :=
  zbi (fX6_hasTick 1 a1 S) fun r_2 S_1 =>
  (if r_2 = 0 then some (0, S_1) else zbi (fX6_hasSet 1 a2 S_1) fun r_4 S_3 =>
  (if r_4 = 0 then some (0, S_3) else zbv (fX0_keep 1 S_3) fun S_5 =>
  zbv (fX2_put (1 + 5) 16 a1 a2 S_5) fun S_6 =>
  some (1, S_6)))
abbrev rmX7_tick : Room := { frames := 4, cells := 0, slots := 0, locals := 86 }
theorem yd_X7_tick : yX7_tick.cls = RX7 ∧ yX7_tick.cls ≠ "java/lang/invoke/MethodHandle" ∧ yX7_tick.cls ≠ "java/lang/invoke/VarHandle" ∧ (parseMethodDescriptor yX7_tick.desc).map (fun d => d.parameters.length) = some 2 := by decide +kernel
set_option maxRecDepth 100000 in
set_option maxHeartbeats 4000000 in
theorem ctX7_tick {l : Launch} {dC : Nat → ClassId} {dI : Nat → Nat → Nat} {cI : ClassId × ClassId} {cW : List zSh} {q : Nat → Nat} (hq : zI cW q) (hW : zIs cI cW) {a1 : Int32} {a2 : Int32} {S : zT} {o : Int32 × zT} (h : fX7_tick a1 a2 S = some o) : zCi l dC dI cI cW q yX7_tick (Cond.code yX7_tick cX7_tick 3 (some .boolean) :: zU) rmX7_tick [.ref (q 0), .int a1, .int a2] S o := by
  refine zMet_i (lv := [(0, .ref (q 0)), (1, .int a1), (2, .int a2)]) (by decide) (Nat.le_of_ble_eq_true rfl) rfl ?_
  intro p e s m args below meth c Q hx hb hml hr hU hown hlocks hK hN hP hS ls hl hQ
  replace hown : s.vm.findClass RX7 = some m.cls := hown
  unfold fX7_tick at h
  refine lv_aload_n hx hb dX7_tick_0 rfl (lv_at hl 0 rfl) ?_
  refine z_get hx hb hU uU_X7 hown hK hP (p_0 hW) rfl rfl 0 (by decide) (hU _ uF_X7_12) rfl dX7_tick_1 ?_
  refine lv_iload_n hx hb dX7_tick_4 rfl (lv_at hl 1 rfl) ?_
  refine z_callV_i hx hb hml hown hU hK hN hP hS 1 (pW_1 hW).1 rfl rfl (zU_V uL_X7_115 uI_X6_hasTick uS_X6_hasTick uN_X6 uC_X6_hasTick) yd_X6_hasTick ⟨rfl, rfl⟩ ⟨Nat.le_of_ble_eq_true rfl, Nat.le_of_ble_eq_true rfl⟩ (As := [.int a1]) (fun o h9 => ctX6_hasTick hq (pW_1 hW) h9) rfl hl.1 rfl (Nat.le_of_ble_eq_true rfl) dX7_tick_5 ⟨Nat.zero_le _, Nat.zero_le _⟩ h (fun r_2 S_1 H locs hP hS h => ?_)
  refine z_if_eq (tgt := 22) hx hb dX7_tick_8 (by decide) h (fun h => ?_) (fun h => ?_)
  · refine lv_iconst (v := 0) hx hb dX7_tick_22 rfl ?_
    exact z_zretC hx hb hlocks hP hS hQ hr dX7_tick_23 (Or.inl rfl) h
  · refine lv_aload_n hx hb dX7_tick_11 rfl (lv_at hl 0 rfl) ?_
    refine z_get hx hb hU uU_X7 hown hK hP (p_0 hW) rfl rfl 0 (by decide) (hU _ uF_X7_12) rfl dX7_tick_12 ?_
    refine lv_iload_n hx hb dX7_tick_15 rfl (lv_at hl 2 rfl) ?_
    refine z_callV_i hx hb hml hown hU hK hN hP hS 1 (pW_1 hW).1 rfl rfl (zU_V uL_X7_118 uI_X6_hasSet uS_X6_hasSet uN_X6 uC_X6_hasSet) yd_X6_hasSet ⟨rfl, rfl⟩ ⟨Nat.le_of_ble_eq_true rfl, Nat.le_of_ble_eq_true rfl⟩ (As := [.int a2]) (fun o h9 => ctX6_hasSet hq (pW_1 hW) h9) rfl hl.1 rfl (Nat.le_of_ble_eq_true rfl) dX7_tick_16 ⟨Nat.zero_le _, Nat.zero_le _⟩ h (fun r_4 S_3 H locs hP hS h => ?_)
    refine z_if_ne (tgt := 24) hx hb dX7_tick_19 (by decide) h (fun h => ?_) (fun h => ?_)
    · refine lv_aload_n hx hb dX7_tick_24 rfl (lv_at hl 0 rfl) ?_
      refine z_get hx hb hU uU_X7 hown hK hP (p_0 hW) rfl rfl 1 (by decide) (hU _ uF_X7_19) rfl dX7_tick_25 ?_
      refine lv_aload_n hx hb dX7_tick_28 rfl (lv_at hl 0 rfl) ?_
      refine z_get hx hb hU uU_X7 hown hK hP (p_0 hW) rfl rfl 0 (by decide) (hU _ uF_X7_12) rfl dX7_tick_29 ?_
      refine z_callV_v hx hb hml hown hU hK hN hP hS 1 (p_8 hW) rfl rfl (zU_V uL_X7_67 uI_X0_keep uS_X0_keep uN_X0 uC_X0_keep) yd_X0_keep ⟨rfl, rfl⟩ ⟨Nat.le_of_ble_eq_true rfl, Nat.le_of_ble_eq_true rfl⟩ (As := [.ref (q 1)]) (fun o h9 => ctX0_keep hq hW (pW_1 hW) h9) rfl hl.1 rfl (Nat.le_of_ble_eq_true rfl) dX7_tick_32 ⟨Nat.zero_le _, Nat.zero_le _⟩ h (fun S_5 H locs hP hS h => ?_)
      refine lv_aload_n hx hb dX7_tick_35 rfl (lv_at hl 0 rfl) ?_
      refine z_get hx hb hU uU_X7 hown hK hP (p_0 hW) rfl rfl 0 (by decide) (hU _ uF_X7_12) rfl dX7_tick_36 ?_
      refine z_get hx hb hU uU_X6 hown hK hP (pW_1 hW).1 rfl rfl 9 (by decide) (hU _ uF_X7_108) rfl dX7_tick_39 ?_
      refine lv_iload_n hx hb dX7_tick_42 rfl (lv_at hl 1 rfl) ?_
      refine lv_iload_n hx hb dX7_tick_43 rfl (lv_at hl 2 rfl) ?_
      refine z_callV_v hx hb hml hown hU hK hN hP hS 2 (pW_1 hW).2.2.2.1 rfl rfl (zU_V uL_X7_86 uI_X2_put uS_X2_put uN_X2 uC_X2_put) yd_X2_put ⟨rfl, rfl⟩ ⟨Nat.le_of_ble_eq_true rfl, Nat.le_of_ble_eq_true rfl⟩ (As := [.int a1, .int a2]) (fun o h9 => ctX2_put hq (pW_1 hW).2.2.2 h9) rfl hl.1 rfl (Nat.le_of_ble_eq_true rfl) dX7_tick_44 ⟨Nat.zero_le _, Nat.zero_le _⟩ h (fun S_6 H locs hP hS h => ?_)
      refine lv_iconst (v := 1) hx hb dX7_tick_47 rfl ?_
      exact z_zretC hx hb hlocks hP hS hQ hr dX7_tick_48 (Or.inr rfl) h
    · refine lv_iconst (v := 0) hx hb dX7_tick_22 rfl ?_
      exact z_zretC hx hb hlocks hP hS hQ hr dX7_tick_23 (Or.inl rfl) h

def fX7_areTicks (a0 : Int32) (a1 : Int32) (S : zT) : Option (Int32 × zT) :=
  zbi (fX7_isWithin a0 2 8 S) fun r_2 S_1 =>
  (if r_2 = 0 then some (0, S_1) else zbi (fX7_isWithin a1 1 (a0 - 1) S_1) fun r_4 S_3 =>
  (if r_4 = 0 then some (0, S_3) else some (1, S_3)))
abbrev rmX7_areTicks : Room := { frames := 1, cells := 0, slots := 0, locals := 22 }
theorem yd_X7_areTicks : yX7_areTicks.cls ≠ "java/lang/invoke/MethodHandle" ∧ yX7_areTicks.cls ≠ "java/lang/invoke/VarHandle" ∧ (parseMethodDescriptor yX7_areTicks.desc).map (fun d => d.parameters.length) = some 2 := by decide +kernel
set_option maxRecDepth 100000 in
set_option maxHeartbeats 4000000 in
theorem ctX7_areTicks {l : Launch} {dC : Nat → ClassId} {dI : Nat → Nat → Nat} {cI : ClassId × ClassId} {cW : List zSh} {q : Nat → Nat} (hq : zI cW q) {a0 : Int32} {a1 : Int32} {S : zT} {o : Int32 × zT} (h : fX7_areTicks a0 a1 S = some o) : zCi l dC dI cI cW q yX7_areTicks (Cond.code yX7_areTicks cX7_areTicks 2 (some .boolean) :: zU) rmX7_areTicks [.int a0, .int a1] S o := by
  refine zMet_i (lv := [(0, .int a0), (1, .int a1)]) (by decide) (Nat.le_of_ble_eq_true rfl) rfl ?_
  intro p e s m args below meth c Q hx hb hml hr hU hown hlocks hK hN hP hS ls hl hQ
  replace hown : s.vm.findClass RX7 = some m.cls := hown
  unfold fX7_areTicks at h
  refine lv_iload_n hx hb dX7_areTicks_0 rfl (lv_at hl 0 rfl) ?_
  refine lv_iconst (v := 2) hx hb dX7_areTicks_1 rfl ?_
  refine lv_bipush (v := 8) hx hb dX7_areTicks_2 rfl ?_
  refine z_callS_i hx hb hml hown hU hK hN hP hS 3 (zU_J uL_X7_63 uT_X7_isWithin uN_X7 uC_X7_isWithin) yd_X7_isWithin ⟨rfl, rfl⟩ ⟨Nat.le_of_ble_eq_true rfl, Nat.le_of_ble_eq_true rfl⟩ (As := [.int a0, .int 2, .int 8]) (fun o h9 => ctX7_isWithin hq  h9) rfl hl.1 rfl (Nat.le_of_ble_eq_true rfl) dX7_areTicks_4 ⟨Nat.zero_le _, Nat.zero_le _⟩ h (fun r_2 S_1 H locs hP hS h => ?_)
  refine z_if_eq (tgt := 25) hx hb dX7_areTicks_7 (by decide) h (fun h => ?_) (fun h => ?_)
  · refine lv_iconst (v := 0) hx hb dX7_areTicks_25 rfl ?_
    exact z_zretC hx hb hlocks hP hS hQ hr dX7_areTicks_26 (Or.inl rfl) h
  · refine lv_iload_n hx hb dX7_areTicks_10 rfl (lv_at hl 1 rfl) ?_
    refine lv_iconst (v := 1) hx hb dX7_areTicks_11 rfl ?_
    refine lv_iload_n hx hb dX7_areTicks_12 rfl (lv_at hl 0 rfl) ?_
    refine lv_iconst (v := 1) hx hb dX7_areTicks_13 rfl ?_
    refine lv_isub hx hb dX7_areTicks_14 ?_
    refine z_callS_i hx hb hml hown hU hK hN hP hS 3 (zU_J uL_X7_63 uT_X7_isWithin uN_X7 uC_X7_isWithin) yd_X7_isWithin ⟨rfl, rfl⟩ ⟨Nat.le_of_ble_eq_true rfl, Nat.le_of_ble_eq_true rfl⟩ (As := [.int a1, .int 1, .int (a0 - 1)]) (fun o h9 => ctX7_isWithin hq  h9) rfl hl.1 rfl (Nat.le_of_ble_eq_true rfl) dX7_areTicks_15 ⟨Nat.zero_le _, Nat.zero_le _⟩ h (fun r_4 S_3 H locs hP hS h => ?_)
    refine z_if_eq (tgt := 25) hx hb dX7_areTicks_18 (by decide) h (fun h => ?_) (fun h => ?_)
    · refine lv_iconst (v := 0) hx hb dX7_areTicks_25 rfl ?_
      exact z_zretC hx hb hlocks hP hS hQ hr dX7_areTicks_26 (Or.inl rfl) h
    · refine lv_iconst (v := 1) hx hb dX7_areTicks_21 rfl ?_
      refine lv_goto (tgt := 26) hx hb dX7_areTicks_22 (by decide) ?_
      exact z_zretC hx hb hlocks hP hS hQ hr dX7_areTicks_26 (Or.inr rfl) h

def fX7_offsetOf (a0 : Int32) (a1 : Int32) (S : zT) : Option (Int32 × zT) :=
  some (((zushr a0 (4 * a1)) &&& 15), S)
abbrev rmX7_offsetOf : Room := { frames := 0, cells := 0, slots := 0, locals := 0 }
theorem yd_X7_offsetOf : yX7_offsetOf.cls ≠ "java/lang/invoke/MethodHandle" ∧ yX7_offsetOf.cls ≠ "java/lang/invoke/VarHandle" ∧ (parseMethodDescriptor yX7_offsetOf.desc).map (fun d => d.parameters.length) = some 2 := by decide +kernel
set_option maxRecDepth 100000 in
set_option maxHeartbeats 4000000 in
theorem ctX7_offsetOf {l : Launch} {dC : Nat → ClassId} {dI : Nat → Nat → Nat} {cI : ClassId × ClassId} {cW : List zSh} {q : Nat → Nat} (hq : zI cW q) {a0 : Int32} {a1 : Int32} {S : zT} {o : Int32 × zT} (h : fX7_offsetOf a0 a1 S = some o) : zCi l dC dI cI cW q yX7_offsetOf (Cond.code yX7_offsetOf cX7_offsetOf 2 (some .int) :: zU) rmX7_offsetOf [.int a0, .int a1] S o := by
  refine zMet_i (lv := [(0, .int a0), (1, .int a1)]) (by decide) (Nat.le_of_ble_eq_true rfl) rfl ?_
  intro p e s m args below meth c Q hx hb hml hr hU hown hlocks hK hN hP hS ls hl hQ
  replace hown : s.vm.findClass RX7 = some m.cls := hown
  unfold fX7_offsetOf at h
  refine lv_iload_n hx hb dX7_offsetOf_0 rfl (lv_at hl 0 rfl) ?_
  refine lv_iconst (v := 4) hx hb dX7_offsetOf_1 rfl ?_
  refine lv_iload_n hx hb dX7_offsetOf_2 rfl (lv_at hl 1 rfl) ?_
  refine lv_imul hx hb dX7_offsetOf_3 ?_
  refine lv_iushr (v := (zushr a0 (4 * a1))) hx hb dX7_offsetOf_4 rfl ?_
  refine lv_bipush (v := 15) hx hb dX7_offsetOf_5 rfl ?_
  refine lv_iand hx hb dX7_offsetOf_7 ?_
  exact z_iret hx hb hlocks hP hS hQ hr dX7_offsetOf_8 h

def fX6_layLeg_79 (b : Nat) (k8 : Int32 → Int32 → Int32 → Int32 → zT → Option zT) (x2 : Int32) (x3 : Int32) (x4 : Int32) (x5 : Int32) (t0 : Int32) (t1 : Int32) (S : zT) : Option zT :=
  zbv (fX2_put (b + 5) 16 t1 t0 S) fun S_1 =>
  k8 x2 x3 x4 (x5 + 1) S_1
def fX6_layLeg_39 (b : Nat) (k8 : Int32 → Int32 → Int32 → Int32 → zT → Option zT) (x2 : Int32) (x3 : Int32) (x4 : Int32) (x5 : Int32) (t0 : Int32) (S : zT) : Option zT :=
  zbi (fX2_at (b + 5) 16 x5 S) fun r_3 S_2 =>
  (if x2 ≤ t0 then (fX6_layLeg_79 b k8) x2 x3 x4 x5 ((r_3 &&& (x4 ^^^ (-1))) ||| x4) x5 S_2 else (fX6_layLeg_79 b k8) x2 x3 x4 x5 (r_3 &&& (x4 ^^^ (-1))) x5 S_2)
def fX6_layLeg_8 (b : Nat) (rec : Int32 → Int32 → Int32 → Int32 → zT → Option zT) (x2 : Int32) (x3 : Int32) (x4 : Int32) (x5 : Int32) (S : zT) : Option zT :=
  (if (S.1 b 6) ≤ x5 then some S else (if x3 ≤ x5 then (fX6_layLeg_39 b rec) x2 x3 x4 x5 (x5 - x3) S else (fX6_layLeg_39 b rec) x2 x3 x4 x5 ((x5 - x3) + (S.1 b 6)) S))
def fX6_layLeg (b : Nat) (a1 : Int32) (a2 : Int32) (a3 : Int32) (S : zT) : Option zT :=
  (zfix (fun _ _ _ _ _ => none) (fX6_layLeg_8 b) zF) a2 a3 (zshl 1 a1) 0 S
abbrev rmX6_layLeg : Room := { frames := 1, cells := 0, slots := 0, locals := 22 }
theorem yd_X6_layLeg : yX6_layLeg.cls = RX6 ∧ yX6_layLeg.cls ≠ "java/lang/invoke/MethodHandle" ∧ yX6_layLeg.cls ≠ "java/lang/invoke/VarHandle" ∧ (parseMethodDescriptor yX6_layLeg.desc).map (fun d => d.parameters.length) = some 3 := by decide +kernel
set_option maxRecDepth 100000 in
set_option maxHeartbeats 4000000 in
theorem ctX6_layLeg {l : Launch} {dC : Nat → ClassId} {dI : Nat → Nat → Nat} {cI : ClassId × ClassId} {cW : List zSh} {q : Nat → Nat} (hq : zI cW q) {b : Nat} (hb0 : isWk cI cW b) {a1 : Int32} {a2 : Int32} {a3 : Int32} {S : zT} {o : zT} (h : fX6_layLeg b a1 a2 a3 S = some o) : zCv l dC dI cI cW q yX6_layLeg (Cond.code yX6_layLeg cX6_layLeg 8 none :: zU) rmX6_layLeg [.ref (q b), .int a1, .int a2, .int a3] S o := by
  refine zMet_v (lv := [(0, .ref (q b)), (1, .int a1), (2, .int a2), (3, .int a3)]) (by decide) (Nat.le_of_ble_eq_true rfl) rfl ?_
  intro p e s m args below meth c Q hx hb hml hr hU hown hlocks hK hN hP hS ls hl hQ
  replace hown : s.vm.findClass RX6 = some m.cls := hown
  unfold fX6_layLeg at h
  have L8 : ∀ (n8 : Nat) (x2 : Int32) (x3 : Int32) (x4 : Int32) (x5 : Int32) (S : zT) (H : Heap) (locs : List Loc) (ls : Array Slot), va_P (dC, dI) vwCl (zWd cI cW q S) H → va_S (zA cW q) s.heap H locs → lv_has ls 8 [(0, .ref (q b)), (2, .int x2), (3, .int x3), (4, .int x4), (5, .int x5)] → (zfix (fun _ _ _ _ _ => none) (fX6_layLeg_8 b) n8) x2 x3 x4 x5 S = some o → W p l e rmX6_layLeg s m args below meth c H locs 0 0 Q (F0 m 8 ls []) := by
    intro n8
    induction n8 with
    | zero => intro x2 x3 x4 x5 S H locs ls hP hS hl h; exact zno (show (none : Option zT) = some o from h)
    | succ n8 ih8 =>
      intro x2 x3 x4 x5 S H locs ls hP hS hl h
      replace h : fX6_layLeg_8 b (zfix (fun _ _ _ _ _ => none) (fX6_layLeg_8 b) n8) x2 x3 x4 x5 S = some o := h
      unfold fX6_layLeg_8 at h
      have L39 : ∀ (x2 : Int32) (x3 : Int32) (x4 : Int32) (x5 : Int32) (t0 : Int32) (S : zT) (H : Heap) (locs : List Loc) (ls : Array Slot), va_P (dC, dI) vwCl (zWd cI cW q S) H → va_S (zA cW q) s.heap H locs → lv_has ls 8 [(0, .ref (q b)), (2, .int x2), (3, .int x3), (4, .int x4), (5, .int x5)] → (fX6_layLeg_39 b (zfix (fun _ _ _ _ _ => none) (fX6_layLeg_8 b) n8)) x2 x3 x4 x5 t0 S = some o → W p l e rmX6_layLeg s m args below meth c H locs 0 0 Q (F0 m 39 ls [.int t0]) := by
        intro x2 x3 x4 x5 t0 S H locs ls hP hS hl h
        unfold fX6_layLeg_39 at h
        have L79 : ∀ (x2 : Int32) (x3 : Int32) (x4 : Int32) (x5 : Int32) (t0 : Int32) (t1 : Int32) (S : zT) (H : Heap) (locs : List Loc) (ls : Array Slot), va_P (dC, dI) vwCl (zWd cI cW q S) H → va_S (zA cW q) s.heap H locs → lv_has ls 8 [(0, .ref (q b)), (2, .int x2), (3, .int x3), (4, .int x4), (5, .int x5)] → (fX6_layLeg_79 b (zfix (fun _ _ _ _ _ => none) (fX6_layLeg_8 b) n8)) x2 x3 x4 x5 t0 t1 S = some o → W p l e rmX6_layLeg s m args below meth c H locs 0 0 Q (F0 m 79 ls [.int t0, .int t1, .ref (q (b + 5))]) := by
          intro x2 x3 x4 x5 t0 t1 S H locs ls hP hS hl h
          unfold fX6_layLeg_79 at h
          refine z_callV_v hx hb hml hown hU hK hN hP hS 2 hb0.2.2.2.1 rfl rfl (zU_V uL_X6_33 uI_X2_put uS_X2_put uN_X2 uC_X2_put) yd_X2_put ⟨rfl, rfl⟩ ⟨Nat.le_of_ble_eq_true rfl, Nat.le_of_ble_eq_true rfl⟩ (As := [.int t1, .int t0]) (fun o h9 => ctX2_put hq hb0.2.2.2 h9) rfl hl.1 rfl (Nat.le_of_ble_eq_true rfl) dX6_layLeg_79 ⟨Nat.zero_le _, Nat.zero_le _⟩ h (fun S_1 H locs hP hS h => ?_)
          refine lv_iinc (v := (x5 + 1)) (lv' := [(5, .int (x5 + 1)), (0, .ref (q b)), (2, .int x2), (3, .int x3), (4, .int x4)]) hx hb dX6_layLeg_82 hl (k := 4) rfl rfl (by decide) rfl (fun ls hl => ?_)
          refine lv_goto (tgt := 8) hx hb dX6_layLeg_85 (by decide) ?_
          exact ih8 x2 x3 x4 (x5 + 1) _ _ _ ls hP hS (lv_sub hl [1, 2, 3, 4, 0] rfl) h
        refine lv_istore (lv' := [(6, .int t0), (0, .ref (q b)), (2, .int x2), (3, .int x3), (4, .int x4), (5, .int x5)]) hx hb dX6_layLeg_39 hl (by decide) rfl (fun ls hl => ?_)
        refine lv_aload_n hx hb dX6_layLeg_41 rfl (lv_at hl 1 rfl) ?_
        refine z_get hx hb hU uU_X6 hown hK hP hb0.1 rfl rfl 9 (by decide) (hU _ uF_X6_23) rfl dX6_layLeg_42 ?_
        refine lv_iload hx hb dX6_layLeg_45 (lv_at hl 5 rfl) ?_
        refine z_callV_i hx hb hml hown hU hK hN hP hS 1 hb0.2.2.2.1 rfl rfl (zU_V uL_X6_60 uI_X2_at uS_X2_at uN_X2 uC_X2_at) yd_X2_at ⟨rfl, rfl⟩ ⟨Nat.le_of_ble_eq_true rfl, Nat.le_of_ble_eq_true rfl⟩ (As := [.int x5]) (fun o h9 => ctX2_at hq hb0.2.2.2 h9) rfl hl.1 rfl (Nat.le_of_ble_eq_true rfl) dX6_layLeg_47 ⟨Nat.zero_le _, Nat.zero_le _⟩ h (fun r_3 S_2 H locs hP hS h => ?_)
        refine lv_iload hx hb dX6_layLeg_50 (lv_at hl 4 rfl) ?_
        refine lv_iconst (v := (-1)) hx hb dX6_layLeg_52 rfl ?_
        refine lv_ixor hx hb dX6_layLeg_53 ?_
        refine lv_iand hx hb dX6_layLeg_54 ?_
        refine lv_istore (lv' := [(7, .int (r_3 &&& (x4 ^^^ (-1)))), (6, .int t0), (0, .ref (q b)), (2, .int x2), (3, .int x3), (4, .int x4), (5, .int x5)]) hx hb dX6_layLeg_55 hl (by decide) rfl (fun ls hl => ?_)
        refine lv_aload_n hx hb dX6_layLeg_57 rfl (lv_at hl 2 rfl) ?_
        refine z_get hx hb hU uU_X6 hown hK hP hb0.1 rfl rfl 9 (by decide) (hU _ uF_X6_23) rfl dX6_layLeg_58 ?_
        refine lv_iload hx hb dX6_layLeg_61 (lv_at hl 6 rfl) ?_
        refine lv_iload hx hb dX6_layLeg_63 (lv_at hl 1 rfl) ?_
        refine lv_iload_n hx hb dX6_layLeg_65 rfl (lv_at hl 3 rfl) ?_
        refine z_icmp_ge (tgt := 74) hx hb dX6_layLeg_66 (by decide) h (fun h => ?_) (fun h => ?_)
        · refine lv_iload hx hb dX6_layLeg_74 (lv_at hl 0 rfl) ?_
          refine lv_iload hx hb dX6_layLeg_76 (lv_at hl 5 rfl) ?_
          refine lv_ior hx hb dX6_layLeg_78 ?_
          exact L79 x2 x3 x4 x5 ((r_3 &&& (x4 ^^^ (-1))) ||| x4) x5 _ _ _ ls hP hS (lv_sub hl [2, 3, 4, 5, 6] rfl) h
        · refine lv_iload hx hb dX6_layLeg_69 (lv_at hl 0 rfl) ?_
          refine lv_goto (tgt := 79) hx hb dX6_layLeg_71 (by decide) ?_
          exact L79 x2 x3 x4 x5 (r_3 &&& (x4 ^^^ (-1))) x5 _ _ _ ls hP hS (lv_sub hl [2, 3, 4, 5, 6] rfl) h
      refine lv_iload hx hb dX6_layLeg_8 (lv_at hl 4 rfl) ?_
      refine lv_aload_n hx hb dX6_layLeg_10 rfl (lv_at hl 0 rfl) ?_
      refine z_get hx hb hU uU_X6 hown hK hP hb0.1 rfl rfl 6 (by decide) (hU _ uF_X6_49) rfl dX6_layLeg_11 ?_
      refine z_icmp_ge (tgt := 88) hx hb dX6_layLeg_14 (by decide) h (fun h => ?_) (fun h => ?_)
      · exact z_vret hx hb hlocks hP hS hQ hr dX6_layLeg_88 h
      · refine lv_iload hx hb dX6_layLeg_17 (lv_at hl 4 rfl) ?_
        refine lv_iload_n hx hb dX6_layLeg_19 rfl (lv_at hl 2 rfl) ?_
        refine z_icmp_ge (tgt := 35) hx hb dX6_layLeg_20 (by decide) h (fun h => ?_) (fun h => ?_)
        · refine lv_iload hx hb dX6_layLeg_35 (lv_at hl 4 rfl) ?_
          refine lv_iload_n hx hb dX6_layLeg_37 rfl (lv_at hl 2 rfl) ?_
          refine lv_isub hx hb dX6_layLeg_38 ?_
          exact L39 x2 x3 x4 x5 (x5 - x3) _ _ _ ls hP hS (lv_sub hl [0, 1, 2, 3, 4] rfl) h
        · refine lv_iload hx hb dX6_layLeg_23 (lv_at hl 4 rfl) ?_
          refine lv_iload_n hx hb dX6_layLeg_25 rfl (lv_at hl 2 rfl) ?_
          refine lv_isub hx hb dX6_layLeg_26 ?_
          refine lv_aload_n hx hb dX6_layLeg_27 rfl (lv_at hl 0 rfl) ?_
          refine z_get hx hb hU uU_X6 hown hK hP hb0.1 rfl rfl 6 (by decide) (hU _ uF_X6_49) rfl dX6_layLeg_28 ?_
          refine lv_iadd hx hb dX6_layLeg_31 ?_
          refine lv_goto (tgt := 39) hx hb dX6_layLeg_32 (by decide) ?_
          exact L39 x2 x3 x4 x5 ((x5 - x3) + (S.1 b 6)) _ _ _ ls hP hS (lv_sub hl [0, 1, 2, 3, 4] rfl) h
  refine lv_iconst (v := 1) hx hb dX6_layLeg_0 rfl ?_
  refine lv_iload_n hx hb dX6_layLeg_1 rfl (lv_at hl 1 rfl) ?_
  refine lv_ishl hx hb dX6_layLeg_2 ?_
  refine lv_istore (lv' := [(4, .int (zshl 1 a1)), (0, .ref (q b)), (1, .int a1), (2, .int a2), (3, .int a3)]) hx hb dX6_layLeg_3 hl (by decide) rfl (fun ls hl => ?_)
  refine lv_iconst (v := 0) hx hb dX6_layLeg_5 rfl ?_
  refine lv_istore (lv' := [(5, .int 0), (4, .int (zshl 1 a1)), (0, .ref (q b)), (1, .int a1), (2, .int a2), (3, .int a3)]) hx hb dX6_layLeg_6 hl (by decide) rfl (fun ls hl => ?_)
  exact L8 zF a2 a3 (zshl 1 a1) 0 _ _ _ ls hP hS (lv_sub hl [2, 4, 5, 1, 0] rfl) h

def fX6_layRow_40 (b : Nat) (rec : Int32 → Int32 → Int32 → zT → Option zT) (x2 : Int32) (x3 : Int32) (x4 : Int32) (S : zT) : Option zT :=
  (if (S.1 b 0) ≤ x4 then some S else zbi (fX7_offsetOf x3 x4 S) fun r_2 S_1 =>
  zbv (fX6_layLeg b x4 x2 r_2 S_1) fun S_3 =>
  rec x2 x3 (x4 + 1) S_3)
def fX6_layRow_8 (b : Nat) (rec : Int32 → Int32 → Int32 → Int32 → zT → Option zT) (x1 : Int32) (x2 : Int32) (x3 : Int32) (x4 : Int32) (S : zT) : Option zT :=
  (if x1 ≤ x4 then zbv (fX6_layLeg b 0 x2 0 S) fun S_4 =>
  (zfix (fun _ _ _ _ => none) (fX6_layRow_40 b) zF) x2 x3 1 S_4 else zbv (fX2_put (b + 5) 16 x4 0 S) fun S_5 =>
  rec x1 x2 x3 (x4 + 1) S_5)
def fX6_layRow (b : Nat) (a1 : Int32) (a2 : Int32) (a3 : Int32) (S : zT) : Option zT :=
  zlet (zsi S b 6 a1) fun S_6 =>
  (zfix (fun _ _ _ _ _ => none) (fX6_layRow_8 b) zF) a1 a2 a3 0 S_6
abbrev rmX6_layRow : Room := { frames := 2, cells := 0, slots := 0, locals := 49 }
theorem yd_X6_layRow : yX6_layRow.cls = RX6 ∧ yX6_layRow.cls ≠ "java/lang/invoke/MethodHandle" ∧ yX6_layRow.cls ≠ "java/lang/invoke/VarHandle" ∧ (parseMethodDescriptor yX6_layRow.desc).map (fun d => d.parameters.length) = some 3 := by decide +kernel
set_option maxRecDepth 100000 in
set_option maxHeartbeats 4000000 in
theorem ctX6_layRow {l : Launch} {dC : Nat → ClassId} {dI : Nat → Nat → Nat} {cI : ClassId × ClassId} {cW : List zSh} {q : Nat → Nat} (hq : zI cW q) {b : Nat} (hb0 : isWk cI cW b) {a1 : Int32} {a2 : Int32} {a3 : Int32} {S : zT} {o : zT} (h : fX6_layRow b a1 a2 a3 S = some o) : zCv l dC dI cI cW q yX6_layRow (Cond.code yX6_layRow cX6_layRow 5 none :: zU) rmX6_layRow [.ref (q b), .int a1, .int a2, .int a3] S o := by
  refine zMet_v (lv := [(0, .ref (q b)), (1, .int a1), (2, .int a2), (3, .int a3)]) (by decide) (Nat.le_of_ble_eq_true rfl) rfl ?_
  intro p e s m args below meth c Q hx hb hml hr hU hown hlocks hK hN hP hS ls hl hQ
  replace hown : s.vm.findClass RX6 = some m.cls := hown
  unfold fX6_layRow at h
  have L8 : ∀ (n8 : Nat) (x1 : Int32) (x2 : Int32) (x3 : Int32) (x4 : Int32) (S : zT) (H : Heap) (locs : List Loc) (ls : Array Slot), va_P (dC, dI) vwCl (zWd cI cW q S) H → va_S (zA cW q) s.heap H locs → lv_has ls 5 [(0, .ref (q b)), (1, .int x1), (2, .int x2), (3, .int x3), (4, .int x4)] → (zfix (fun _ _ _ _ _ => none) (fX6_layRow_8 b) n8) x1 x2 x3 x4 S = some o → W p l e rmX6_layRow s m args below meth c H locs 0 0 Q (F0 m 8 ls []) := by
    intro n8
    induction n8 with
    | zero => intro x1 x2 x3 x4 S H locs ls hP hS hl h; exact zno (show (none : Option zT) = some o from h)
    | succ n8 ih8 =>
      intro x1 x2 x3 x4 S H locs ls hP hS hl h
      replace h : fX6_layRow_8 b (zfix (fun _ _ _ _ _ => none) (fX6_layRow_8 b) n8) x1 x2 x3 x4 S = some o := h
      unfold fX6_layRow_8 at h
      have L40 : ∀ (n40 : Nat) (x2 : Int32) (x3 : Int32) (x4 : Int32) (S : zT) (H : Heap) (locs : List Loc) (ls : Array Slot), va_P (dC, dI) vwCl (zWd cI cW q S) H → va_S (zA cW q) s.heap H locs → lv_has ls 5 [(0, .ref (q b)), (2, .int x2), (3, .int x3), (4, .int x4)] → (zfix (fun _ _ _ _ => none) (fX6_layRow_40 b) n40) x2 x3 x4 S = some o → W p l e rmX6_layRow s m args below meth c H locs 0 0 Q (F0 m 40 ls []) := by
        intro n40
        induction n40 with
        | zero => intro x2 x3 x4 S H locs ls hP hS hl h; exact zno (show (none : Option zT) = some o from h)
        | succ n40 ih40 =>
          intro x2 x3 x4 S H locs ls hP hS hl h
          replace h : fX6_layRow_40 b (zfix (fun _ _ _ _ => none) (fX6_layRow_40 b) n40) x2 x3 x4 S = some o := h
          unfold fX6_layRow_40 at h
          refine lv_iload hx hb dX6_layRow_40 (lv_at hl 3 rfl) ?_
          refine lv_aload_n hx hb dX6_layRow_42 rfl (lv_at hl 0 rfl) ?_
          refine z_get hx hb hU uU_X6 hown hK hP hb0.1 rfl rfl 0 (by decide) (hU _ uF_X6_26) rfl dX6_layRow_43 ?_
          refine z_icmp_ge (tgt := 68) hx hb dX6_layRow_46 (by decide) h (fun h => ?_) (fun h => ?_)
          · exact z_vret hx hb hlocks hP hS hQ hr dX6_layRow_68 h
          · refine lv_aload_n hx hb dX6_layRow_49 rfl (lv_at hl 0 rfl) ?_
            refine lv_iload hx hb dX6_layRow_50 (lv_at hl 3 rfl) ?_
            refine lv_iload_n hx hb dX6_layRow_52 rfl (lv_at hl 1 rfl) ?_
            refine lv_iload_n hx hb dX6_layRow_53 rfl (lv_at hl 2 rfl) ?_
            refine lv_iload hx hb dX6_layRow_54 (lv_at hl 3 rfl) ?_
            refine z_callN_i hx hb hml hown hU hK hN hP hS 2 hN.1 uN_X7 uT_X7_offsetOf uC_X7_offsetOf yd_X7_offsetOf ⟨rfl, rfl⟩ ⟨Nat.le_of_ble_eq_true rfl, Nat.le_of_ble_eq_true rfl⟩ (As := [.int x3, .int x4]) (fun o h9 => ctX7_offsetOf hq  h9) rfl hl.1 rfl (Nat.le_of_ble_eq_true rfl) dX6_layRow_56 ⟨Nat.zero_le _, Nat.zero_le _⟩ h (fun r_2 S_1 H locs hP hS h => ?_)
            refine z_callV_v hx hb hml hown hU hK hN hP hS 3 hb0.1 rfl rfl (zU_V uL_X6_71 uI_X6_layLeg uS_X6_layLeg uN_X6 uC_X6_layLeg) yd_X6_layLeg ⟨rfl, rfl⟩ ⟨Nat.le_of_ble_eq_true rfl, Nat.le_of_ble_eq_true rfl⟩ (As := [.int x4, .int x2, .int r_2]) (fun o h9 => ctX6_layLeg hq hb0 h9) rfl hl.1 rfl (Nat.le_of_ble_eq_true rfl) dX6_layRow_59 ⟨Nat.zero_le _, Nat.zero_le _⟩ h (fun S_3 H locs hP hS h => ?_)
            refine lv_iinc (v := (x4 + 1)) (lv' := [(4, .int (x4 + 1)), (0, .ref (q b)), (2, .int x2), (3, .int x3)]) hx hb dX6_layRow_62 hl (k := 3) rfl rfl (by decide) rfl (fun ls hl => ?_)
            refine lv_goto (tgt := 40) hx hb dX6_layRow_65 (by decide) ?_
            exact ih40 x2 x3 (x4 + 1) _ _ _ ls hP hS (lv_sub hl [1, 2, 3, 0] rfl) h
      refine lv_iload hx hb dX6_layRow_8 (lv_at hl 4 rfl) ?_
      refine lv_iload_n hx hb dX6_layRow_10 rfl (lv_at hl 1 rfl) ?_
      refine z_icmp_ge (tgt := 30) hx hb dX6_layRow_11 (by decide) h (fun h => ?_) (fun h => ?_)
      · refine lv_aload_n hx hb dX6_layRow_30 rfl (lv_at hl 0 rfl) ?_
        refine lv_iconst (v := 0) hx hb dX6_layRow_31 rfl ?_
        refine lv_iload_n hx hb dX6_layRow_32 rfl (lv_at hl 2 rfl) ?_
        refine lv_iconst (v := 0) hx hb dX6_layRow_33 rfl ?_
        refine z_callV_v hx hb hml hown hU hK hN hP hS 3 hb0.1 rfl rfl (zU_V uL_X6_71 uI_X6_layLeg uS_X6_layLeg uN_X6 uC_X6_layLeg) yd_X6_layLeg ⟨rfl, rfl⟩ ⟨Nat.le_of_ble_eq_true rfl, Nat.le_of_ble_eq_true rfl⟩ (As := [.int 0, .int x2, .int 0]) (fun o h9 => ctX6_layLeg hq hb0 h9) rfl hl.1 rfl (Nat.le_of_ble_eq_true rfl) dX6_layRow_34 ⟨Nat.zero_le _, Nat.zero_le _⟩ h (fun S_4 H locs hP hS h => ?_)
        refine lv_iconst (v := 1) hx hb dX6_layRow_37 rfl ?_
        refine lv_istore (lv' := [(4, .int 1), (0, .ref (q b)), (1, .int x1), (2, .int x2), (3, .int x3)]) hx hb dX6_layRow_38 hl (by decide) rfl (fun ls hl => ?_)
        exact L40 zF x2 x3 1 _ _ _ ls hP hS (lv_sub hl [1, 3, 4, 0] rfl) h
      · refine lv_aload_n hx hb dX6_layRow_14 rfl (lv_at hl 0 rfl) ?_
        refine z_get hx hb hU uU_X6 hown hK hP hb0.1 rfl rfl 9 (by decide) (hU _ uF_X6_23) rfl dX6_layRow_15 ?_
        refine lv_iload hx hb dX6_layRow_18 (lv_at hl 4 rfl) ?_
        refine lv_iconst (v := 0) hx hb dX6_layRow_20 rfl ?_
        refine z_callV_v hx hb hml hown hU hK hN hP hS 2 hb0.2.2.2.1 rfl rfl (zU_V uL_X6_33 uI_X2_put uS_X2_put uN_X2 uC_X2_put) yd_X2_put ⟨rfl, rfl⟩ ⟨Nat.le_of_ble_eq_true rfl, Nat.le_of_ble_eq_true rfl⟩ (As := [.int x4, .int 0]) (fun o h9 => ctX2_put hq hb0.2.2.2 h9) rfl hl.1 rfl (Nat.le_of_ble_eq_true rfl) dX6_layRow_21 ⟨Nat.zero_le _, Nat.zero_le _⟩ h (fun S_5 H locs hP hS h => ?_)
        refine lv_iinc (v := (x4 + 1)) (lv' := [(4, .int (x4 + 1)), (0, .ref (q b)), (1, .int x1), (2, .int x2), (3, .int x3)]) hx hb dX6_layRow_24 hl (k := 4) rfl rfl (by decide) rfl (fun ls hl => ?_)
        refine lv_goto (tgt := 8) hx hb dX6_layRow_27 (by decide) ?_
        exact ih8 x1 x2 x3 (x4 + 1) _ _ _ ls hP hS (lv_sub hl [1, 2, 3, 4, 0] rfl) h
  refine lv_aload_n hx hb dX6_layRow_0 rfl (lv_at hl 0 rfl) ?_
  refine lv_iload_n hx hb dX6_layRow_1 rfl (lv_at hl 1 rfl) ?_
  refine z_puti hx hb hU uU_X6 tyX6 tyX6_ok nmX6 hown hq hK hP hS hb0.1 rfl rfl 6 (by decide) (hU _ uF_X6_49) rfl rfl rfl (Nat.le_of_ble_eq_true rfl) rfl dX6_layRow_2 h (fun S_6 H locs hP hS h => ?_)
  refine lv_iconst (v := 0) hx hb dX6_layRow_5 rfl ?_
  refine lv_istore (lv' := [(4, .int 0), (0, .ref (q b)), (1, .int a1), (2, .int a2), (3, .int a3)]) hx hb dX6_layRow_6 hl (by decide) rfl (fun ls hl => ?_)
  exact L8 zF a1 a2 a3 0 _ _ _ ls hP hS (lv_sub hl [1, 2, 3, 4, 0] rfl) h

def fX7_regular_13 (rec : Int32 → Int32 → Int32 → Int32 → zT → Option (Int32 × zT)) (x1 : Int32) (x2 : Int32) (x3 : Int32) (x4 : Int32) (S : zT) : Option (Int32 × zT) :=
  (if (S.1 1 0) ≤ x4 then zbv (fX0_keep 1 S) fun S_1 =>
  zbv (fX6_layRow 1 x1 x2 x3 S_1) fun S_2 =>
  some (1, S_2) else zbi (fX7_offsetOf x3 x4 S) fun r_4 S_3 =>
  (if r_4 < x1 then rec x1 x2 x3 (x4 + 1) S_3 else some (0, S_3)))
def fX7_regular (a1 : Int32) (a2 : Int32) (a3 : Int32) (S : zT) : Option (Int32 × zT) :=
  zbi (fX7_areTicks a1 a2 S) fun r_6 S_5 =>
  (if r_6 = 0 then some (0, S_5) else (zfix (fun _ _ _ _ _ => none) fX7_regular_13 zF) a1 a2 a3 1 S_5)
abbrev rmX7_regular : Room := { frames := 4, cells := 0, slots := 0, locals := 86 }
theorem yd_X7_regular : yX7_regular.cls = RX7 ∧ yX7_regular.cls ≠ "java/lang/invoke/MethodHandle" ∧ yX7_regular.cls ≠ "java/lang/invoke/VarHandle" ∧ (parseMethodDescriptor yX7_regular.desc).map (fun d => d.parameters.length) = some 3 := by decide +kernel
set_option maxRecDepth 100000 in
set_option maxHeartbeats 4000000 in
theorem ctX7_regular {l : Launch} {dC : Nat → ClassId} {dI : Nat → Nat → Nat} {cI : ClassId × ClassId} {cW : List zSh} {q : Nat → Nat} (hq : zI cW q) (hW : zIs cI cW) {a1 : Int32} {a2 : Int32} {a3 : Int32} {S : zT} {o : Int32 × zT} (h : fX7_regular a1 a2 a3 S = some o) : zCi l dC dI cI cW q yX7_regular (Cond.code yX7_regular cX7_regular 5 (some .boolean) :: zU) rmX7_regular [.ref (q 0), .int a1, .int a2, .int a3] S o := by
  refine zMet_i (lv := [(0, .ref (q 0)), (1, .int a1), (2, .int a2), (3, .int a3)]) (by decide) (Nat.le_of_ble_eq_true rfl) rfl ?_
  intro p e s m args below meth c Q hx hb hml hr hU hown hlocks hK hN hP hS ls hl hQ
  replace hown : s.vm.findClass RX7 = some m.cls := hown
  unfold fX7_regular at h
  have L13 : ∀ (n13 : Nat) (x1 : Int32) (x2 : Int32) (x3 : Int32) (x4 : Int32) (S : zT) (H : Heap) (locs : List Loc) (ls : Array Slot), va_P (dC, dI) vwCl (zWd cI cW q S) H → va_S (zA cW q) s.heap H locs → lv_has ls 5 [(0, .ref (q 0)), (1, .int x1), (2, .int x2), (3, .int x3), (4, .int x4)] → (zfix (fun _ _ _ _ _ => none) fX7_regular_13 n13) x1 x2 x3 x4 S = some o → W p l e rmX7_regular s m args below meth c H locs 0 0 Q (F0 m 13 ls []) := by
    intro n13
    induction n13 with
    | zero => intro x1 x2 x3 x4 S H locs ls hP hS hl h; exact zno (show (none : Option (Int32 × zT)) = some o from h)
    | succ n13 ih13 =>
      intro x1 x2 x3 x4 S H locs ls hP hS hl h
      replace h : fX7_regular_13 (zfix (fun _ _ _ _ _ => none) fX7_regular_13 n13) x1 x2 x3 x4 S = some o := h
      unfold fX7_regular_13 at h
      refine lv_iload hx hb dX7_regular_13 (lv_at hl 4 rfl) ?_
      refine lv_aload_n hx hb dX7_regular_15 rfl (lv_at hl 0 rfl) ?_
      refine z_get hx hb hU uU_X7 hown hK hP (p_0 hW) rfl rfl 0 (by decide) (hU _ uF_X7_12) rfl dX7_regular_16 ?_
      refine z_get hx hb hU uU_X6 hown hK hP (pW_1 hW).1 rfl rfl 0 (by decide) (hU _ uF_X7_124) rfl dX7_regular_19 ?_
      refine z_icmp_ge (tgt := 43) hx hb dX7_regular_22 (by decide) h (fun h => ?_) (fun h => ?_)
      · refine lv_aload_n hx hb dX7_regular_43 rfl (lv_at hl 0 rfl) ?_
        refine z_get hx hb hU uU_X7 hown hK hP (p_0 hW) rfl rfl 1 (by decide) (hU _ uF_X7_19) rfl dX7_regular_44 ?_
        refine lv_aload_n hx hb dX7_regular_47 rfl (lv_at hl 0 rfl) ?_
        refine z_get hx hb hU uU_X7 hown hK hP (p_0 hW) rfl rfl 0 (by decide) (hU _ uF_X7_12) rfl dX7_regular_48 ?_
        refine z_callV_v hx hb hml hown hU hK hN hP hS 1 (p_8 hW) rfl rfl (zU_V uL_X7_67 uI_X0_keep uS_X0_keep uN_X0 uC_X0_keep) yd_X0_keep ⟨rfl, rfl⟩ ⟨Nat.le_of_ble_eq_true rfl, Nat.le_of_ble_eq_true rfl⟩ (As := [.ref (q 1)]) (fun o h9 => ctX0_keep hq hW (pW_1 hW) h9) rfl hl.1 rfl (Nat.le_of_ble_eq_true rfl) dX7_regular_51 ⟨Nat.zero_le _, Nat.zero_le _⟩ h (fun S_1 H locs hP hS h => ?_)
        refine lv_aload_n hx hb dX7_regular_54 rfl (lv_at hl 0 rfl) ?_
        refine z_get hx hb hU uU_X7 hown hK hP (p_0 hW) rfl rfl 0 (by decide) (hU _ uF_X7_12) rfl dX7_regular_55 ?_
        refine lv_iload_n hx hb dX7_regular_58 rfl (lv_at hl 1 rfl) ?_
        refine lv_iload_n hx hb dX7_regular_59 rfl (lv_at hl 2 rfl) ?_
        refine lv_iload_n hx hb dX7_regular_60 rfl (lv_at hl 3 rfl) ?_
        refine z_callV_v hx hb hml hown hU hK hN hP hS 3 (pW_1 hW).1 rfl rfl (zU_V uL_X7_130 uI_X6_layRow uS_X6_layRow uN_X6 uC_X6_layRow) yd_X6_layRow ⟨rfl, rfl⟩ ⟨Nat.le_of_ble_eq_true rfl, Nat.le_of_ble_eq_true rfl⟩ (As := [.int x1, .int x2, .int x3]) (fun o h9 => ctX6_layRow hq (pW_1 hW) h9) rfl hl.1 rfl (Nat.le_of_ble_eq_true rfl) dX7_regular_61 ⟨Nat.zero_le _, Nat.zero_le _⟩ h (fun S_2 H locs hP hS h => ?_)
        refine lv_iconst (v := 1) hx hb dX7_regular_64 rfl ?_
        exact z_zretC hx hb hlocks hP hS hQ hr dX7_regular_65 (Or.inr rfl) h
      · refine lv_iload_n hx hb dX7_regular_25 rfl (lv_at hl 3 rfl) ?_
        refine lv_iload hx hb dX7_regular_26 (lv_at hl 4 rfl) ?_
        refine z_callS_i hx hb hml hown hU hK hN hP hS 2 (zU_J uL_X7_127 uT_X7_offsetOf uN_X7 uC_X7_offsetOf) yd_X7_offsetOf ⟨rfl, rfl⟩ ⟨Nat.le_of_ble_eq_true rfl, Nat.le_of_ble_eq_true rfl⟩ (As := [.int x3, .int x4]) (fun o h9 => ctX7_offsetOf hq  h9) rfl hl.1 rfl (Nat.le_of_ble_eq_true rfl) dX7_regular_28 ⟨Nat.zero_le _, Nat.zero_le _⟩ h (fun r_4 S_3 H locs hP hS h => ?_)
        refine lv_iload_n hx hb dX7_regular_31 rfl (lv_at hl 1 rfl) ?_
        refine z_icmp_lt (tgt := 37) hx hb dX7_regular_32 (by decide) h (fun h => ?_) (fun h => ?_)
        · refine lv_iinc (v := (x4 + 1)) (lv' := [(4, .int (x4 + 1)), (0, .ref (q 0)), (1, .int x1), (2, .int x2), (3, .int x3)]) hx hb dX7_regular_37 hl (k := 4) rfl rfl (by decide) rfl (fun ls hl => ?_)
          refine lv_goto (tgt := 13) hx hb dX7_regular_40 (by decide) ?_
          exact ih13 x1 x2 x3 (x4 + 1) _ _ _ ls hP hS (lv_sub hl [1, 2, 3, 4, 0] rfl) h
        · refine lv_iconst (v := 0) hx hb dX7_regular_35 rfl ?_
          exact z_zretC hx hb hlocks hP hS hQ hr dX7_regular_36 (Or.inl rfl) h
  refine lv_iload_n hx hb dX7_regular_0 rfl (lv_at hl 1 rfl) ?_
  refine lv_iload_n hx hb dX7_regular_1 rfl (lv_at hl 2 rfl) ?_
  refine z_callS_i hx hb hml hown hU hK hN hP hS 2 (zU_J uL_X7_121 uT_X7_areTicks uN_X7 uC_X7_areTicks) yd_X7_areTicks ⟨rfl, rfl⟩ ⟨Nat.le_of_ble_eq_true rfl, Nat.le_of_ble_eq_true rfl⟩ (As := [.int a1, .int a2]) (fun o h9 => ctX7_areTicks hq  h9) rfl hl.1 rfl (Nat.le_of_ble_eq_true rfl) dX7_regular_2 ⟨Nat.zero_le _, Nat.zero_le _⟩ h (fun r_6 S_5 H locs hP hS h => ?_)
  refine z_if_ne (tgt := 10) hx hb dX7_regular_5 (by decide) h (fun h => ?_) (fun h => ?_)
  · refine lv_iconst (v := 1) hx hb dX7_regular_10 rfl ?_
    refine lv_istore (lv' := [(4, .int 1), (0, .ref (q 0)), (1, .int a1), (2, .int a2), (3, .int a3)]) hx hb dX7_regular_11 hl (by decide) rfl (fun ls hl => ?_)
    exact L13 zF a1 a2 a3 1 _ _ _ ls hP hS (lv_sub hl [1, 2, 3, 4, 0] rfl) h
  · refine lv_iconst (v := 0) hx hb dX7_regular_8 rfl ?_
    exact z_zretC hx hb hlocks hP hS hQ hr dX7_regular_9 (Or.inl rfl) h

def fX6_twinOf (b : Nat) (a1 : Int32) (S : zT) : Option (Int32 × zT) :=
  zbi (fX2_at (b + 1) 8 a1 S) fun r_2 S_1 =>
  zbi (fX2_at (b + 3) 8 a1 S_1) fun r_4 S_3 =>
  zbi (fX6_legAt b (-r_2) r_4 S_3) fun r_6 S_5 =>
  some (r_6, S_5)
abbrev rmX6_twinOf : Room := { frames := 2, cells := 0, slots := 0, locals := 44 }
theorem yd_X6_twinOf : yX6_twinOf.cls = RX6 ∧ yX6_twinOf.cls ≠ "java/lang/invoke/MethodHandle" ∧ yX6_twinOf.cls ≠ "java/lang/invoke/VarHandle" ∧ (parseMethodDescriptor yX6_twinOf.desc).map (fun d => d.parameters.length) = some 1 := by decide +kernel
set_option maxRecDepth 100000 in
set_option maxHeartbeats 4000000 in
theorem ctX6_twinOf {l : Launch} {dC : Nat → ClassId} {dI : Nat → Nat → Nat} {cI : ClassId × ClassId} {cW : List zSh} {q : Nat → Nat} (hq : zI cW q) {b : Nat} (hb0 : isWk cI cW b) {a1 : Int32} {S : zT} {o : Int32 × zT} (h : fX6_twinOf b a1 S = some o) : zCi l dC dI cI cW q yX6_twinOf (Cond.code yX6_twinOf cX6_twinOf 2 (some .int) :: zU) rmX6_twinOf [.ref (q b), .int a1] S o := by
  refine zMet_i (lv := [(0, .ref (q b)), (1, .int a1)]) (by decide) (Nat.le_of_ble_eq_true rfl) rfl ?_
  intro p e s m args below meth c Q hx hb hml hr hU hown hlocks hK hN hP hS ls hl hQ
  replace hown : s.vm.findClass RX6 = some m.cls := hown
  unfold fX6_twinOf at h
  refine lv_aload_n hx hb dX6_twinOf_0 rfl (lv_at hl 0 rfl) ?_
  refine lv_aload_n hx hb dX6_twinOf_1 rfl (lv_at hl 0 rfl) ?_
  refine z_get hx hb hU uU_X6 hown hK hP hb0.1 rfl rfl 7 (by decide) (hU _ uF_X6_14) rfl dX6_twinOf_2 ?_
  refine lv_iload_n hx hb dX6_twinOf_5 rfl (lv_at hl 1 rfl) ?_
  refine z_callV_i hx hb hml hown hU hK hN hP hS 1 hb0.2.1.1 rfl rfl (zU_V uL_X6_60 uI_X2_at uS_X2_at uN_X2 uC_X2_at) yd_X2_at ⟨rfl, rfl⟩ ⟨Nat.le_of_ble_eq_true rfl, Nat.le_of_ble_eq_true rfl⟩ (As := [.int a1]) (fun o h9 => ctX2_at hq hb0.2.1 h9) rfl hl.1 rfl (Nat.le_of_ble_eq_true rfl) dX6_twinOf_6 ⟨Nat.zero_le _, Nat.zero_le _⟩ h (fun r_2 S_1 H locs hP hS h => ?_)
  refine lv_ineg hx hb dX6_twinOf_9 ?_
  refine lv_aload_n hx hb dX6_twinOf_10 rfl (lv_at hl 0 rfl) ?_
  refine z_get hx hb hU uU_X6 hown hK hP hb0.1 rfl rfl 8 (by decide) (hU _ uF_X6_20) rfl dX6_twinOf_11 ?_
  refine lv_iload_n hx hb dX6_twinOf_14 rfl (lv_at hl 1 rfl) ?_
  refine z_callV_i hx hb hml hown hU hK hN hP hS 1 hb0.2.2.1.1 rfl rfl (zU_V uL_X6_60 uI_X2_at uS_X2_at uN_X2 uC_X2_at) yd_X2_at ⟨rfl, rfl⟩ ⟨Nat.le_of_ble_eq_true rfl, Nat.le_of_ble_eq_true rfl⟩ (As := [.int a1]) (fun o h9 => ctX2_at hq hb0.2.2.1 h9) rfl hl.1 rfl (Nat.le_of_ble_eq_true rfl) dX6_twinOf_15 ⟨Nat.zero_le _, Nat.zero_le _⟩ h (fun r_4 S_3 H locs hP hS h => ?_)
  refine z_callV_i hx hb hml hown hU hK hN hP hS 2 hb0.1 rfl rfl (zU_V uL_X6_64 uI_X6_legAt uS_X6_legAt uN_X6 uC_X6_legAt) yd_X6_legAt ⟨rfl, rfl⟩ ⟨Nat.le_of_ble_eq_true rfl, Nat.le_of_ble_eq_true rfl⟩ (As := [.int (-r_2), .int r_4]) (fun o h9 => ctX6_legAt hq hb0 h9) rfl hl.1 rfl (Nat.le_of_ble_eq_true rfl) dX6_twinOf_18 ⟨Nat.zero_le _, Nat.zero_le _⟩ h (fun r_6 S_5 H locs hP hS h => ?_)
  exact z_iret hx hb hlocks hP hS hQ hr dX6_twinOf_21 h

def fX6_isMirrored_2 (b : Nat) (rec : Int32 → zT → Option (Int32 × zT)) (x1 : Int32) (S : zT) : Option (Int32 × zT) :=
  (if (S.1 b 0) ≤ x1 then (if (S.1 b 2) = 0 then some (1, S) else some (0, S)) else zbi (fX6_twinOf b x1 S) fun r_2 S_1 =>
  (if r_2 = (-1) then some (0, S_1) else rec (x1 + 1) S_1))
def fX6_isMirrored (b : Nat) (S : zT) : Option (Int32 × zT) :=
  (zfix (fun _ _ => none) (fX6_isMirrored_2 b) zF) 0 S
abbrev rmX6_isMirrored : Room := { frames := 3, cells := 0, slots := 0, locals := 65 }
theorem yd_X6_isMirrored : yX6_isMirrored.cls = RX6 ∧ yX6_isMirrored.cls ≠ "java/lang/invoke/MethodHandle" ∧ yX6_isMirrored.cls ≠ "java/lang/invoke/VarHandle" ∧ (parseMethodDescriptor yX6_isMirrored.desc).map (fun d => d.parameters.length) = some 0 := by decide +kernel
set_option maxRecDepth 100000 in
set_option maxHeartbeats 4000000 in
theorem ctX6_isMirrored {l : Launch} {dC : Nat → ClassId} {dI : Nat → Nat → Nat} {cI : ClassId × ClassId} {cW : List zSh} {q : Nat → Nat} (hq : zI cW q) {b : Nat} (hb0 : isWk cI cW b) {S : zT} {o : Int32 × zT} (h : fX6_isMirrored b S = some o) : zCi l dC dI cI cW q yX6_isMirrored (Cond.code yX6_isMirrored cX6_isMirrored 2 (some .boolean) :: zU) rmX6_isMirrored [.ref (q b)] S o := by
  refine zMet_i (lv := [(0, .ref (q b))]) (by decide) (Nat.le_of_ble_eq_true rfl) rfl ?_
  intro p e s m args below meth c Q hx hb hml hr hU hown hlocks hK hN hP hS ls hl hQ
  replace hown : s.vm.findClass RX6 = some m.cls := hown
  unfold fX6_isMirrored at h
  have L2 : ∀ (n2 : Nat) (x1 : Int32) (S : zT) (H : Heap) (locs : List Loc) (ls : Array Slot), va_P (dC, dI) vwCl (zWd cI cW q S) H → va_S (zA cW q) s.heap H locs → lv_has ls 2 [(0, .ref (q b)), (1, .int x1)] → (zfix (fun _ _ => none) (fX6_isMirrored_2 b) n2) x1 S = some o → W p l e rmX6_isMirrored s m args below meth c H locs 0 0 Q (F0 m 2 ls []) := by
    intro n2
    induction n2 with
    | zero => intro x1 S H locs ls hP hS hl h; exact zno (show (none : Option (Int32 × zT)) = some o from h)
    | succ n2 ih2 =>
      intro x1 S H locs ls hP hS hl h
      replace h : fX6_isMirrored_2 b (zfix (fun _ _ => none) (fX6_isMirrored_2 b) n2) x1 S = some o := h
      unfold fX6_isMirrored_2 at h
      refine lv_iload_n hx hb dX6_isMirrored_2 rfl (lv_at hl 1 rfl) ?_
      refine lv_aload_n hx hb dX6_isMirrored_3 rfl (lv_at hl 0 rfl) ?_
      refine z_get hx hb hU uU_X6 hown hK hP hb0.1 rfl rfl 0 (by decide) (hU _ uF_X6_26) rfl dX6_isMirrored_4 ?_
      refine z_icmp_ge (tgt := 27) hx hb dX6_isMirrored_7 (by decide) h (fun h => ?_) (fun h => ?_)
      · refine lv_aload_n hx hb dX6_isMirrored_27 rfl (lv_at hl 0 rfl) ?_
        refine z_get hx hb hU uU_X6 hown hK hP hb0.1 rfl rfl 2 (by decide) (hU _ uF_X6_37) rfl dX6_isMirrored_28 ?_
        refine z_if_ne (tgt := 38) hx hb dX6_isMirrored_31 (by decide) h (fun h => ?_) (fun h => ?_)
        · refine lv_iconst (v := 0) hx hb dX6_isMirrored_38 rfl ?_
          exact z_zretC hx hb hlocks hP hS hQ hr dX6_isMirrored_39 (Or.inl rfl) h
        · refine lv_iconst (v := 1) hx hb dX6_isMirrored_34 rfl ?_
          refine lv_goto (tgt := 39) hx hb dX6_isMirrored_35 (by decide) ?_
          exact z_zretC hx hb hlocks hP hS hQ hr dX6_isMirrored_39 (Or.inr rfl) h
      · refine lv_aload_n hx hb dX6_isMirrored_10 rfl (lv_at hl 0 rfl) ?_
        refine lv_iload_n hx hb dX6_isMirrored_11 rfl (lv_at hl 1 rfl) ?_
        refine z_callV_i hx hb hml hown hU hK hN hP hS 1 hb0.1 rfl rfl (zU_V uL_X6_68 uI_X6_twinOf uS_X6_twinOf uN_X6 uC_X6_twinOf) yd_X6_twinOf ⟨rfl, rfl⟩ ⟨Nat.le_of_ble_eq_true rfl, Nat.le_of_ble_eq_true rfl⟩ (As := [.int x1]) (fun o h9 => ctX6_twinOf hq hb0 h9) rfl hl.1 rfl (Nat.le_of_ble_eq_true rfl) dX6_isMirrored_12 ⟨Nat.zero_le _, Nat.zero_le _⟩ h (fun r_2 S_1 H locs hP hS h => ?_)
        refine lv_iconst (v := (-1)) hx hb dX6_isMirrored_15 rfl ?_
        refine z_icmp_ne (tgt := 21) hx hb dX6_isMirrored_16 (by decide) h (fun h => ?_) (fun h => ?_)
        · refine lv_iinc (v := (x1 + 1)) (lv' := [(1, .int (x1 + 1)), (0, .ref (q b))]) hx hb dX6_isMirrored_21 hl (k := 1) rfl rfl (by decide) rfl (fun ls hl => ?_)
          refine lv_goto (tgt := 2) hx hb dX6_isMirrored_24 (by decide) ?_
          exact ih2 (x1 + 1) _ _ _ ls hP hS (lv_sub hl [1, 0] rfl) h
        · refine lv_iconst (v := 0) hx hb dX6_isMirrored_19 rfl ?_
          exact z_zretC hx hb hlocks hP hS hQ hr dX6_isMirrored_20 (Or.inl rfl) h
  refine lv_iconst (v := 0) hx hb dX6_isMirrored_0 rfl ?_
  refine lv_istore_n (lv' := [(1, .int 0), (0, .ref (q b))]) hx hb dX6_isMirrored_1 rfl hl (by decide) rfl (fun ls hl => ?_)
  exact L2 zF 0 _ _ _ ls hP hS (lv_sub hl [1, 0] rfl) h

def fX7_aboutLeg (a1 : Int32) (S : zT) : Option (Int32 × zT) :=
  zbi (fX7_isWithin a1 10 39 S) fun r_2 S_1 =>
  (if r_2 = 0 then some ((-100), S_1) else zbi (fX6_hasLeg 1 (a1 - a1 / 10 * 10) S_1) fun r_4 S_3 =>
  (if r_4 = 0 then some ((-100), S_3) else (if 20 ≤ a1 then (if 30 ≤ a1 then zbi (fX6_twinOf 1 (a1 - a1 / 10 * 10) S_3) fun r_6 S_5 =>
  (if r_6 = (-1) then some ((-100), S_5) else some (r_6, S_5)) else zbi (fX2_at (1 + 3) 8 (a1 - a1 / 10 * 10) S_3) fun r_8 S_7 =>
  some (r_8, S_7)) else zbi (fX2_at (1 + 1) 8 (a1 - a1 / 10 * 10) S_3) fun r_10 S_9 =>
  some (r_10, S_9))))
abbrev rmX7_aboutLeg : Room := { frames := 3, cells := 0, slots := 0, locals := 65 }
theorem yd_X7_aboutLeg : yX7_aboutLeg.cls = RX7 ∧ yX7_aboutLeg.cls ≠ "java/lang/invoke/MethodHandle" ∧ yX7_aboutLeg.cls ≠ "java/lang/invoke/VarHandle" ∧ (parseMethodDescriptor yX7_aboutLeg.desc).map (fun d => d.parameters.length) = some 1 := by decide +kernel
set_option maxRecDepth 100000 in
set_option maxHeartbeats 4000000 in
theorem ctX7_aboutLeg {l : Launch} {dC : Nat → ClassId} {dI : Nat → Nat → Nat} {cI : ClassId × ClassId} {cW : List zSh} {q : Nat → Nat} (hq : zI cW q) (hW : zIs cI cW) {a1 : Int32} {S : zT} {o : Int32 × zT} (h : fX7_aboutLeg a1 S = some o) : zCi l dC dI cI cW q yX7_aboutLeg (Cond.code yX7_aboutLeg cX7_aboutLeg 4 (some .int) :: zU) rmX7_aboutLeg [.ref (q 0), .int a1] S o := by
  refine zMet_i (lv := [(0, .ref (q 0)), (1, .int a1)]) (by decide) (Nat.le_of_ble_eq_true rfl) rfl ?_
  intro p e s m args below meth c Q hx hb hml hr hU hown hlocks hK hN hP hS ls hl hQ
  replace hown : s.vm.findClass RX7 = some m.cls := hown
  unfold fX7_aboutLeg at h
  refine lv_iload_n hx hb dX7_aboutLeg_0 rfl (lv_at hl 1 rfl) ?_
  refine lv_bipush (v := 10) hx hb dX7_aboutLeg_1 rfl ?_
  refine lv_irem hx hb dX7_aboutLeg_3 (by decide) ?_
  refine lv_istore_n (lv' := [(2, .int (a1 - a1 / 10 * 10)), (0, .ref (q 0)), (1, .int a1)]) hx hb dX7_aboutLeg_4 rfl hl (by decide) rfl (fun ls hl => ?_)
  refine lv_iload_n hx hb dX7_aboutLeg_5 rfl (lv_at hl 2 rfl) ?_
  refine lv_bipush (v := 10) hx hb dX7_aboutLeg_6 rfl ?_
  refine lv_bipush (v := 39) hx hb dX7_aboutLeg_8 rfl ?_
  refine z_callS_i hx hb hml hown hU hK hN hP hS 3 (zU_J uL_X7_63 uT_X7_isWithin uN_X7 uC_X7_isWithin) yd_X7_isWithin ⟨rfl, rfl⟩ ⟨Nat.le_of_ble_eq_true rfl, Nat.le_of_ble_eq_true rfl⟩ (As := [.int a1, .int 10, .int 39]) (fun o h9 => ctX7_isWithin hq  h9) rfl hl.1 rfl (Nat.le_of_ble_eq_true rfl) dX7_aboutLeg_10 ⟨Nat.zero_le _, Nat.zero_le _⟩ h (fun r_2 S_1 H locs hP hS h => ?_)
  refine z_if_eq (tgt := 27) hx hb dX7_aboutLeg_13 (by decide) h (fun h => ?_) (fun h => ?_)
  · refine lv_bipush (v := (-100)) hx hb dX7_aboutLeg_27 rfl ?_
    exact z_iret hx hb hlocks hP hS hQ hr dX7_aboutLeg_29 h
  · refine lv_aload_n hx hb dX7_aboutLeg_16 rfl (lv_at hl 1 rfl) ?_
    refine z_get hx hb hU uU_X7 hown hK hP (p_0 hW) rfl rfl 0 (by decide) (hU _ uF_X7_12) rfl dX7_aboutLeg_17 ?_
    refine lv_iload_n hx hb dX7_aboutLeg_20 rfl (lv_at hl 0 rfl) ?_
    refine z_callV_i hx hb hml hown hU hK hN hP hS 1 (pW_1 hW).1 rfl rfl (zU_V uL_X7_71 uI_X6_hasLeg uS_X6_hasLeg uN_X6 uC_X6_hasLeg) yd_X6_hasLeg ⟨rfl, rfl⟩ ⟨Nat.le_of_ble_eq_true rfl, Nat.le_of_ble_eq_true rfl⟩ (As := [.int (a1 - a1 / 10 * 10)]) (fun o h9 => ctX6_hasLeg hq (pW_1 hW) h9) rfl hl.1 rfl (Nat.le_of_ble_eq_true rfl) dX7_aboutLeg_21 ⟨Nat.zero_le _, Nat.zero_le _⟩ h (fun r_4 S_3 H locs hP hS h => ?_)
    refine z_if_ne (tgt := 30) hx hb dX7_aboutLeg_24 (by decide) h (fun h => ?_) (fun h => ?_)
    · refine lv_iload_n hx hb dX7_aboutLeg_30 rfl (lv_at hl 2 rfl) ?_
      refine lv_bipush (v := 20) hx hb dX7_aboutLeg_31 rfl ?_
      refine z_icmp_ge (tgt := 48) hx hb dX7_aboutLeg_33 (by decide) h (fun h => ?_) (fun h => ?_)
      · refine lv_iload_n hx hb dX7_aboutLeg_48 rfl (lv_at hl 2 rfl) ?_
        refine lv_bipush (v := 30) hx hb dX7_aboutLeg_49 rfl ?_
        refine z_icmp_ge (tgt := 66) hx hb dX7_aboutLeg_51 (by decide) h (fun h => ?_) (fun h => ?_)
        · refine lv_aload_n hx hb dX7_aboutLeg_66 rfl (lv_at hl 1 rfl) ?_
          refine z_get hx hb hU uU_X7 hown hK hP (p_0 hW) rfl rfl 0 (by decide) (hU _ uF_X7_12) rfl dX7_aboutLeg_67 ?_
          refine lv_iload_n hx hb dX7_aboutLeg_70 rfl (lv_at hl 0 rfl) ?_
          refine z_callV_i hx hb hml hown hU hK hN hP hS 1 (pW_1 hW).1 rfl rfl (zU_V uL_X7_248 uI_X6_twinOf uS_X6_twinOf uN_X6 uC_X6_twinOf) yd_X6_twinOf ⟨rfl, rfl⟩ ⟨Nat.le_of_ble_eq_true rfl, Nat.le_of_ble_eq_true rfl⟩ (As := [.int (a1 - a1 / 10 * 10)]) (fun o h9 => ctX6_twinOf hq (pW_1 hW) h9) rfl hl.1 rfl (Nat.le_of_ble_eq_true rfl) dX7_aboutLeg_71 ⟨Nat.zero_le _, Nat.zero_le _⟩ h (fun r_6 S_5 H locs hP hS h => ?_)
          refine lv_istore_n (lv' := [(3, .int r_6), (2, .int (a1 - a1 / 10 * 10)), (0, .ref (q 0)), (1, .int a1)]) hx hb dX7_aboutLeg_74 rfl hl (by decide) rfl (fun ls hl => ?_)
          refine lv_iload_n hx hb dX7_aboutLeg_75 rfl (lv_at hl 0 rfl) ?_
          refine lv_iconst (v := (-1)) hx hb dX7_aboutLeg_76 rfl ?_
          refine z_icmp_ne (tgt := 85) hx hb dX7_aboutLeg_77 (by decide) h (fun h => ?_) (fun h => ?_)
          · refine lv_iload_n hx hb dX7_aboutLeg_85 rfl (lv_at hl 0 rfl) ?_
            exact z_iret hx hb hlocks hP hS hQ hr dX7_aboutLeg_86 h
          · refine lv_bipush (v := (-100)) hx hb dX7_aboutLeg_80 rfl ?_
            refine lv_goto (tgt := 86) hx hb dX7_aboutLeg_82 (by decide) ?_
            exact z_iret hx hb hlocks hP hS hQ hr dX7_aboutLeg_86 h
        · refine lv_aload_n hx hb dX7_aboutLeg_54 rfl (lv_at hl 1 rfl) ?_
          refine z_get hx hb hU uU_X7 hown hK hP (p_0 hW) rfl rfl 0 (by decide) (hU _ uF_X7_12) rfl dX7_aboutLeg_55 ?_
          refine z_get hx hb hU uU_X6 hown hK hP (pW_1 hW).1 rfl rfl 8 (by decide) (hU _ uF_X7_89) rfl dX7_aboutLeg_58 ?_
          refine lv_iload_n hx hb dX7_aboutLeg_61 rfl (lv_at hl 0 rfl) ?_
          refine z_callV_i hx hb hml hown hU hK hN hP hS 1 (pW_1 hW).2.2.1.1 rfl rfl (zU_V uL_X7_145 uI_X2_at uS_X2_at uN_X2 uC_X2_at) yd_X2_at ⟨rfl, rfl⟩ ⟨Nat.le_of_ble_eq_true rfl, Nat.le_of_ble_eq_true rfl⟩ (As := [.int (a1 - a1 / 10 * 10)]) (fun o h9 => ctX2_at hq (pW_1 hW).2.2.1 h9) rfl hl.1 rfl (Nat.le_of_ble_eq_true rfl) dX7_aboutLeg_62 ⟨Nat.zero_le _, Nat.zero_le _⟩ h (fun r_8 S_7 H locs hP hS h => ?_)
          exact z_iret hx hb hlocks hP hS hQ hr dX7_aboutLeg_65 h
      · refine lv_aload_n hx hb dX7_aboutLeg_36 rfl (lv_at hl 1 rfl) ?_
        refine z_get hx hb hU uU_X7 hown hK hP (p_0 hW) rfl rfl 0 (by decide) (hU _ uF_X7_12) rfl dX7_aboutLeg_37 ?_
        refine z_get hx hb hU uU_X6 hown hK hP (pW_1 hW).1 rfl rfl 7 (by decide) (hU _ uF_X7_83) rfl dX7_aboutLeg_40 ?_
        refine lv_iload_n hx hb dX7_aboutLeg_43 rfl (lv_at hl 0 rfl) ?_
        refine z_callV_i hx hb hml hown hU hK hN hP hS 1 (pW_1 hW).2.1.1 rfl rfl (zU_V uL_X7_145 uI_X2_at uS_X2_at uN_X2 uC_X2_at) yd_X2_at ⟨rfl, rfl⟩ ⟨Nat.le_of_ble_eq_true rfl, Nat.le_of_ble_eq_true rfl⟩ (As := [.int (a1 - a1 / 10 * 10)]) (fun o h9 => ctX2_at hq (pW_1 hW).2.1 h9) rfl hl.1 rfl (Nat.le_of_ble_eq_true rfl) dX7_aboutLeg_44 ⟨Nat.zero_le _, Nat.zero_le _⟩ h (fun r_10 S_9 H locs hP hS h => ?_)
        exact z_iret hx hb hlocks hP hS hQ hr dX7_aboutLeg_47 h
    · refine lv_bipush (v := (-100)) hx hb dX7_aboutLeg_27 rfl ?_
      exact z_iret hx hb hlocks hP hS hQ hr dX7_aboutLeg_29 h

def fX7_about (a1 : Int32) (S : zT) : Option (Int32 × zT) :=
  (if a1 = 0 then some ((S.1 1 0), S) else if a1 = 1 then some ((S.1 1 1), S) else if a1 = 2 then some ((S.1 1 6), S) else if a1 = 3 then some ((S.1 1 4), S) else if a1 = 4 then some ((S.1 1 5), S) else if a1 = 5 then some ((S.1 1 2), S) else if a1 = 6 then some ((S.1 1 3), S) else if a1 = 7 then zbi (fX6_isMirrored 1 S) fun r_2 S_1 =>
  (if r_2 = 0 then some (0, S_1) else some (1, S_1)) else zbi (fX7_aboutLeg a1 S) fun r_4 S_3 =>
  some (r_4, S_3))
abbrev rmX7_about : Room := { frames := 4, cells := 0, slots := 0, locals := 88 }
theorem yd_X7_about : yX7_about.cls = RX7 ∧ yX7_about.cls ≠ "java/lang/invoke/MethodHandle" ∧ yX7_about.cls ≠ "java/lang/invoke/VarHandle" ∧ (parseMethodDescriptor yX7_about.desc).map (fun d => d.parameters.length) = some 1 := by decide +kernel
set_option maxRecDepth 100000 in
set_option maxHeartbeats 4000000 in
theorem ctX7_about {l : Launch} {dC : Nat → ClassId} {dI : Nat → Nat → Nat} {cI : ClassId × ClassId} {cW : List zSh} {q : Nat → Nat} (hq : zI cW q) (hW : zIs cI cW) {a1 : Int32} {S : zT} {o : Int32 × zT} (h : fX7_about a1 S = some o) : zCi l dC dI cI cW q yX7_about (Cond.code yX7_about cX7_about 2 (some .int) :: zU) rmX7_about [.ref (q 0), .int a1] S o := by
  refine zMet_i (lv := [(0, .ref (q 0)), (1, .int a1)]) (by decide) (Nat.le_of_ble_eq_true rfl) rfl ?_
  intro p e s m args below meth c Q hx hb hml hr hU hown hlocks hK hN hP hS ls hl hQ
  replace hown : s.vm.findClass RX7 = some m.cls := hown
  unfold fX7_about at h
  refine lv_iload_n hx hb dX7_about_0 rfl (lv_at hl 1 rfl) ?_
  by_cases cs0 : a1 = 0
  · replace h := zif_t cs0 h
    refine z_tblIn (v := 0) (off := 47) (tgt := 48) hx hb dX7_about_1 cs0 (by decide) (by decide) (by decide) (by decide) ?_
    refine lv_aload_n hx hb dX7_about_48 rfl (lv_at hl 0 rfl) ?_
    refine z_get hx hb hU uU_X7 hown hK hP (p_0 hW) rfl rfl 0 (by decide) (hU _ uF_X7_12) rfl dX7_about_49 ?_
    refine z_get hx hb hU uU_X6 hown hK hP (pW_1 hW).1 rfl rfl 0 (by decide) (hU _ uF_X7_124) rfl dX7_about_52 ?_
    exact z_iret hx hb hlocks hP hS hQ hr dX7_about_55 h
  replace h := zif_f cs0 h
  by_cases cs1 : a1 = 1
  · replace h := zif_t cs1 h
    refine z_tblIn (v := 1) (off := 55) (tgt := 56) hx hb dX7_about_1 cs1 (by decide) (by decide) (by decide) (by decide) ?_
    refine lv_aload_n hx hb dX7_about_56 rfl (lv_at hl 0 rfl) ?_
    refine z_get hx hb hU uU_X7 hown hK hP (p_0 hW) rfl rfl 0 (by decide) (hU _ uF_X7_12) rfl dX7_about_57 ?_
    refine z_get hx hb hU uU_X6 hown hK hP (pW_1 hW).1 rfl rfl 1 (by decide) (hU _ uF_X7_134) rfl dX7_about_60 ?_
    exact z_iret hx hb hlocks hP hS hQ hr dX7_about_63 h
  replace h := zif_f cs1 h
  by_cases cs2 : a1 = 2
  · replace h := zif_t cs2 h
    refine z_tblIn (v := 2) (off := 63) (tgt := 64) hx hb dX7_about_1 cs2 (by decide) (by decide) (by decide) (by decide) ?_
    refine lv_aload_n hx hb dX7_about_64 rfl (lv_at hl 0 rfl) ?_
    refine z_get hx hb hU uU_X7 hown hK hP (p_0 hW) rfl rfl 0 (by decide) (hU _ uF_X7_12) rfl dX7_about_65 ?_
    refine z_get hx hb hU uU_X6 hown hK hP (pW_1 hW).1 rfl rfl 6 (by decide) (hU _ uF_X7_105) rfl dX7_about_68 ?_
    exact z_iret hx hb hlocks hP hS hQ hr dX7_about_71 h
  replace h := zif_f cs2 h
  by_cases cs3 : a1 = 3
  · replace h := zif_t cs3 h
    refine z_tblIn (v := 3) (off := 71) (tgt := 72) hx hb dX7_about_1 cs3 (by decide) (by decide) (by decide) (by decide) ?_
    refine lv_aload_n hx hb dX7_about_72 rfl (lv_at hl 0 rfl) ?_
    refine z_get hx hb hU uU_X7 hown hK hP (p_0 hW) rfl rfl 0 (by decide) (hU _ uF_X7_12) rfl dX7_about_73 ?_
    refine z_get hx hb hU uU_X6 hown hK hP (pW_1 hW).1 rfl rfl 4 (by decide) (hU _ uF_X7_99) rfl dX7_about_76 ?_
    exact z_iret hx hb hlocks hP hS hQ hr dX7_about_79 h
  replace h := zif_f cs3 h
  by_cases cs4 : a1 = 4
  · replace h := zif_t cs4 h
    refine z_tblIn (v := 4) (off := 79) (tgt := 80) hx hb dX7_about_1 cs4 (by decide) (by decide) (by decide) (by decide) ?_
    refine lv_aload_n hx hb dX7_about_80 rfl (lv_at hl 0 rfl) ?_
    refine z_get hx hb hU uU_X7 hown hK hP (p_0 hW) rfl rfl 0 (by decide) (hU _ uF_X7_12) rfl dX7_about_81 ?_
    refine z_get hx hb hU uU_X6 hown hK hP (pW_1 hW).1 rfl rfl 5 (by decide) (hU _ uF_X7_102) rfl dX7_about_84 ?_
    exact z_iret hx hb hlocks hP hS hQ hr dX7_about_87 h
  replace h := zif_f cs4 h
  by_cases cs5 : a1 = 5
  · replace h := zif_t cs5 h
    refine z_tblIn (v := 5) (off := 87) (tgt := 88) hx hb dX7_about_1 cs5 (by decide) (by decide) (by decide) (by decide) ?_
    refine lv_aload_n hx hb dX7_about_88 rfl (lv_at hl 0 rfl) ?_
    refine z_get hx hb hU uU_X7 hown hK hP (p_0 hW) rfl rfl 0 (by decide) (hU _ uF_X7_12) rfl dX7_about_89 ?_
    refine z_get hx hb hU uU_X6 hown hK hP (pW_1 hW).1 rfl rfl 2 (by decide) (hU _ uF_X7_92) rfl dX7_about_92 ?_
    exact z_iret hx hb hlocks hP hS hQ hr dX7_about_95 h
  replace h := zif_f cs5 h
  by_cases cs6 : a1 = 6
  · replace h := zif_t cs6 h
    refine z_tblIn (v := 6) (off := 95) (tgt := 96) hx hb dX7_about_1 cs6 (by decide) (by decide) (by decide) (by decide) ?_
    refine lv_aload_n hx hb dX7_about_96 rfl (lv_at hl 0 rfl) ?_
    refine z_get hx hb hU uU_X7 hown hK hP (p_0 hW) rfl rfl 0 (by decide) (hU _ uF_X7_12) rfl dX7_about_97 ?_
    refine z_get hx hb hU uU_X6 hown hK hP (pW_1 hW).1 rfl rfl 3 (by decide) (hU _ uF_X7_96) rfl dX7_about_100 ?_
    exact z_iret hx hb hlocks hP hS hQ hr dX7_about_103 h
  replace h := zif_f cs6 h
  by_cases cs7 : a1 = 7
  · replace h := zif_t cs7 h
    refine z_tblIn (v := 7) (off := 103) (tgt := 104) hx hb dX7_about_1 cs7 (by decide) (by decide) (by decide) (by decide) ?_
    refine lv_aload_n hx hb dX7_about_104 rfl (lv_at hl 0 rfl) ?_
    refine z_get hx hb hU uU_X7 hown hK hP (p_0 hW) rfl rfl 0 (by decide) (hU _ uF_X7_12) rfl dX7_about_105 ?_
    refine z_callV_i hx hb hml hown hU hK hN hP hS 0 (pW_1 hW).1 rfl rfl (zU_V uL_X7_137 uI_X6_isMirrored uS_X6_isMirrored uN_X6 uC_X6_isMirrored) yd_X6_isMirrored ⟨rfl, rfl⟩ ⟨Nat.le_of_ble_eq_true rfl, Nat.le_of_ble_eq_true rfl⟩ (As := []) (fun o h9 => ctX6_isMirrored hq (pW_1 hW) h9) rfl hl.1 rfl (Nat.le_of_ble_eq_true rfl) dX7_about_108 ⟨Nat.zero_le _, Nat.zero_le _⟩ h (fun r_2 S_1 H locs hP hS h => ?_)
    refine z_if_eq (tgt := 118) hx hb dX7_about_111 (by decide) h (fun h => ?_) (fun h => ?_)
    · refine lv_iconst (v := 0) hx hb dX7_about_118 rfl ?_
      exact z_iret hx hb hlocks hP hS hQ hr dX7_about_119 h
    · refine lv_iconst (v := 1) hx hb dX7_about_114 rfl ?_
      refine lv_goto (tgt := 119) hx hb dX7_about_115 (by decide) ?_
      exact z_iret hx hb hlocks hP hS hQ hr dX7_about_119 h
  replace h := zif_f cs7 h
  refine lv_tableOut (tgt := 120) hx hb dX7_about_1 (z_out8 cs0 cs1 cs2 cs3 cs4 cs5 cs6 cs7) (by decide) ?_
  refine lv_aload_n hx hb dX7_about_120 rfl (lv_at hl 0 rfl) ?_
  refine lv_iload_n hx hb dX7_about_121 rfl (lv_at hl 1 rfl) ?_
  refine z_callV_i hx hb hml hown hU hK hN hP hS 1 (p_0 hW) rfl rfl (zU_V uL_X7_141 uI_X7_aboutLeg uS_X7_aboutLeg uN_X7 uC_X7_aboutLeg) yd_X7_aboutLeg ⟨rfl, rfl⟩ ⟨Nat.le_of_ble_eq_true rfl, Nat.le_of_ble_eq_true rfl⟩ (As := [.int a1]) (fun o h9 => ctX7_aboutLeg hq hW h9) rfl hl.1 rfl (Nat.le_of_ble_eq_true rfl) dX7_about_122 ⟨Nat.zero_le _, Nat.zero_le _⟩ h (fun r_4 S_3 H locs hP hS h => ?_)
  exact z_iret hx hb hlocks hP hS hQ hr dX7_about_125 h

def fX7_down (a1 : Int32) (S : zT) : Option (Int32 × zT) :=
  zbi (fX6_hasTick 1 a1 S) fun r_2 S_1 =>
  (if r_2 = 0 then some ((-1), S_1) else zbi (fX2_at (1 + 5) 16 a1 S_1) fun r_4 S_3 =>
  some (r_4, S_3))
abbrev rmX7_down : Room := { frames := 1, cells := 0, slots := 0, locals := 21 }
theorem yd_X7_down : yX7_down.cls = RX7 ∧ yX7_down.cls ≠ "java/lang/invoke/MethodHandle" ∧ yX7_down.cls ≠ "java/lang/invoke/VarHandle" ∧ (parseMethodDescriptor yX7_down.desc).map (fun d => d.parameters.length) = some 1 := by decide +kernel
set_option maxRecDepth 100000 in
set_option maxHeartbeats 4000000 in
theorem ctX7_down {l : Launch} {dC : Nat → ClassId} {dI : Nat → Nat → Nat} {cI : ClassId × ClassId} {cW : List zSh} {q : Nat → Nat} (hq : zI cW q) (hW : zIs cI cW) {a1 : Int32} {S : zT} {o : Int32 × zT} (h : fX7_down a1 S = some o) : zCi l dC dI cI cW q yX7_down (Cond.code yX7_down cX7_down 2 (some .int) :: zU) rmX7_down [.ref (q 0), .int a1] S o := by
  refine zMet_i (lv := [(0, .ref (q 0)), (1, .int a1)]) (by decide) (Nat.le_of_ble_eq_true rfl) rfl ?_
  intro p e s m args below meth c Q hx hb hml hr hU hown hlocks hK hN hP hS ls hl hQ
  replace hown : s.vm.findClass RX7 = some m.cls := hown
  unfold fX7_down at h
  refine lv_aload_n hx hb dX7_down_0 rfl (lv_at hl 0 rfl) ?_
  refine z_get hx hb hU uU_X7 hown hK hP (p_0 hW) rfl rfl 0 (by decide) (hU _ uF_X7_12) rfl dX7_down_1 ?_
  refine lv_iload_n hx hb dX7_down_4 rfl (lv_at hl 1 rfl) ?_
  refine z_callV_i hx hb hml hown hU hK hN hP hS 1 (pW_1 hW).1 rfl rfl (zU_V uL_X7_115 uI_X6_hasTick uS_X6_hasTick uN_X6 uC_X6_hasTick) yd_X6_hasTick ⟨rfl, rfl⟩ ⟨Nat.le_of_ble_eq_true rfl, Nat.le_of_ble_eq_true rfl⟩ (As := [.int a1]) (fun o h9 => ctX6_hasTick hq (pW_1 hW) h9) rfl hl.1 rfl (Nat.le_of_ble_eq_true rfl) dX7_down_5 ⟨Nat.zero_le _, Nat.zero_le _⟩ h (fun r_2 S_1 H locs hP hS h => ?_)
  refine z_if_eq (tgt := 25) hx hb dX7_down_8 (by decide) h (fun h => ?_) (fun h => ?_)
  · refine lv_iconst (v := (-1)) hx hb dX7_down_25 rfl ?_
    exact z_iret hx hb hlocks hP hS hQ hr dX7_down_26 h
  · refine lv_aload_n hx hb dX7_down_11 rfl (lv_at hl 0 rfl) ?_
    refine z_get hx hb hU uU_X7 hown hK hP (p_0 hW) rfl rfl 0 (by decide) (hU _ uF_X7_12) rfl dX7_down_12 ?_
    refine z_get hx hb hU uU_X6 hown hK hP (pW_1 hW).1 rfl rfl 9 (by decide) (hU _ uF_X7_108) rfl dX7_down_15 ?_
    refine lv_iload_n hx hb dX7_down_18 rfl (lv_at hl 1 rfl) ?_
    refine z_callV_i hx hb hml hown hU hK hN hP hS 1 (pW_1 hW).2.2.2.1 rfl rfl (zU_V uL_X7_145 uI_X2_at uS_X2_at uN_X2 uC_X2_at) yd_X2_at ⟨rfl, rfl⟩ ⟨Nat.le_of_ble_eq_true rfl, Nat.le_of_ble_eq_true rfl⟩ (As := [.int a1]) (fun o h9 => ctX2_at hq (pW_1 hW).2.2.2 h9) rfl hl.1 rfl (Nat.le_of_ble_eq_true rfl) dX7_down_19 ⟨Nat.zero_le _, Nat.zero_le _⟩ h (fun r_4 S_3 H locs hP hS h => ?_)
    refine lv_goto (tgt := 26) hx hb dX7_down_22 (by decide) ?_
    exact z_iret hx hb hlocks hP hS hQ hr dX7_down_26 h

def fX6_isDown (b : Nat) (a1 : Int32) (a2 : Int32) (S : zT) : Option (Int32 × zT) :=
  zbi (fX2_at (b + 5) 16 a2 S) fun r_2 S_1 =>
  (if ((zshr r_2 a1) &&& 1) = 1 then some (1, S_1) else some (0, S_1))
abbrev rmX6_isDown : Room := { frames := 1, cells := 0, slots := 0, locals := 21 }
theorem yd_X6_isDown : yX6_isDown.cls = RX6 ∧ yX6_isDown.cls ≠ "java/lang/invoke/MethodHandle" ∧ yX6_isDown.cls ≠ "java/lang/invoke/VarHandle" ∧ (parseMethodDescriptor yX6_isDown.desc).map (fun d => d.parameters.length) = some 2 := by decide +kernel
set_option maxRecDepth 100000 in
set_option maxHeartbeats 4000000 in
theorem ctX6_isDown {l : Launch} {dC : Nat → ClassId} {dI : Nat → Nat → Nat} {cI : ClassId × ClassId} {cW : List zSh} {q : Nat → Nat} (hq : zI cW q) {b : Nat} (hb0 : isWk cI cW b) {a1 : Int32} {a2 : Int32} {S : zT} {o : Int32 × zT} (h : fX6_isDown b a1 a2 S = some o) : zCi l dC dI cI cW q yX6_isDown (Cond.code yX6_isDown cX6_isDown 3 (some .boolean) :: zU) rmX6_isDown [.ref (q b), .int a1, .int a2] S o := by
  refine zMet_i (lv := [(0, .ref (q b)), (1, .int a1), (2, .int a2)]) (by decide) (Nat.le_of_ble_eq_true rfl) rfl ?_
  intro p e s m args below meth c Q hx hb hml hr hU hown hlocks hK hN hP hS ls hl hQ
  replace hown : s.vm.findClass RX6 = some m.cls := hown
  unfold fX6_isDown at h
  refine lv_aload_n hx hb dX6_isDown_0 rfl (lv_at hl 0 rfl) ?_
  refine z_get hx hb hU uU_X6 hown hK hP hb0.1 rfl rfl 9 (by decide) (hU _ uF_X6_23) rfl dX6_isDown_1 ?_
  refine lv_iload_n hx hb dX6_isDown_4 rfl (lv_at hl 2 rfl) ?_
  refine z_callV_i hx hb hml hown hU hK hN hP hS 1 hb0.2.2.2.1 rfl rfl (zU_V uL_X6_60 uI_X2_at uS_X2_at uN_X2 uC_X2_at) yd_X2_at ⟨rfl, rfl⟩ ⟨Nat.le_of_ble_eq_true rfl, Nat.le_of_ble_eq_true rfl⟩ (As := [.int a2]) (fun o h9 => ctX2_at hq hb0.2.2.2 h9) rfl hl.1 rfl (Nat.le_of_ble_eq_true rfl) dX6_isDown_5 ⟨Nat.zero_le _, Nat.zero_le _⟩ h (fun r_2 S_1 H locs hP hS h => ?_)
  refine lv_iload_n hx hb dX6_isDown_8 rfl (lv_at hl 1 rfl) ?_
  refine lv_ishr hx hb dX6_isDown_9 ?_
  refine lv_iconst (v := 1) hx hb dX6_isDown_10 rfl ?_
  refine lv_iand hx hb dX6_isDown_11 ?_
  refine lv_iconst (v := 1) hx hb dX6_isDown_12 rfl ?_
  refine z_icmp_ne (tgt := 20) hx hb dX6_isDown_13 (by decide) h (fun h => ?_) (fun h => ?_)
  · refine lv_iconst (v := 0) hx hb dX6_isDown_20 rfl ?_
    exact z_zretC hx hb hlocks hP hS hQ hr dX6_isDown_21 (Or.inl rfl) h
  · refine lv_iconst (v := 1) hx hb dX6_isDown_16 rfl ?_
    refine lv_goto (tgt := 21) hx hb dX6_isDown_17 (by decide) ?_
    exact z_zretC hx hb hlocks hP hS hQ hr dX6_isDown_21 (Or.inr rfl) h

def fX6_tickAhead (b : Nat) (a1 : Int32) (S : zT) : Option (Int32 × zT) :=
  (if a1 ≤ 0 then some (((S.1 b 6) - 1), S) else some ((a1 - 1), S))
abbrev rmX6_tickAhead : Room := { frames := 0, cells := 0, slots := 0, locals := 0 }
theorem yd_X6_tickAhead : yX6_tickAhead.cls = RX6 ∧ yX6_tickAhead.cls ≠ "java/lang/invoke/MethodHandle" ∧ yX6_tickAhead.cls ≠ "java/lang/invoke/VarHandle" ∧ (parseMethodDescriptor yX6_tickAhead.desc).map (fun d => d.parameters.length) = some 1 := by decide +kernel
set_option maxRecDepth 100000 in
set_option maxHeartbeats 4000000 in
theorem ctX6_tickAhead {l : Launch} {dC : Nat → ClassId} {dI : Nat → Nat → Nat} {cI : ClassId × ClassId} {cW : List zSh} {q : Nat → Nat} (hq : zI cW q) {b : Nat} (hb0 : isWk cI cW b) {a1 : Int32} {S : zT} {o : Int32 × zT} (h : fX6_tickAhead b a1 S = some o) : zCi l dC dI cI cW q yX6_tickAhead (Cond.code yX6_tickAhead cX6_tickAhead 2 (some .int) :: zU) rmX6_tickAhead [.ref (q b), .int a1] S o := by
  refine zMet_i (lv := [(0, .ref (q b)), (1, .int a1)]) (by decide) (Nat.le_of_ble_eq_true rfl) rfl ?_
  intro p e s m args below meth c Q hx hb hml hr hU hown hlocks hK hN hP hS ls hl hQ
  replace hown : s.vm.findClass RX6 = some m.cls := hown
  unfold fX6_tickAhead at h
  refine lv_iload_n hx hb dX6_tickAhead_0 rfl (lv_at hl 1 rfl) ?_
  refine z_if_le (tgt := 10) hx hb dX6_tickAhead_1 (by decide) h (fun h => ?_) (fun h => ?_)
  · refine lv_aload_n hx hb dX6_tickAhead_10 rfl (lv_at hl 0 rfl) ?_
    refine z_get hx hb hU uU_X6 hown hK hP hb0.1 rfl rfl 6 (by decide) (hU _ uF_X6_49) rfl dX6_tickAhead_11 ?_
    refine lv_iconst (v := 1) hx hb dX6_tickAhead_14 rfl ?_
    refine lv_isub hx hb dX6_tickAhead_15 ?_
    exact z_iret hx hb hlocks hP hS hQ hr dX6_tickAhead_16 h
  · refine lv_iload_n hx hb dX6_tickAhead_4 rfl (lv_at hl 1 rfl) ?_
    refine lv_iconst (v := 1) hx hb dX6_tickAhead_5 rfl ?_
    refine lv_isub hx hb dX6_tickAhead_6 ?_
    refine lv_goto (tgt := 16) hx hb dX6_tickAhead_7 (by decide) ?_
    exact z_iret hx hb hlocks hP hS hQ hr dX6_tickAhead_16 h

def fX6_tickAfter (b : Nat) (a1 : Int32) (S : zT) : Option (Int32 × zT) :=
  (if (S.1 b 6) ≤ (a1 + 1) then some (0, S) else some ((a1 + 1), S))
abbrev rmX6_tickAfter : Room := { frames := 0, cells := 0, slots := 0, locals := 0 }
theorem yd_X6_tickAfter : yX6_tickAfter.cls = RX6 ∧ yX6_tickAfter.cls ≠ "java/lang/invoke/MethodHandle" ∧ yX6_tickAfter.cls ≠ "java/lang/invoke/VarHandle" ∧ (parseMethodDescriptor yX6_tickAfter.desc).map (fun d => d.parameters.length) = some 1 := by decide +kernel
set_option maxRecDepth 100000 in
set_option maxHeartbeats 4000000 in
theorem ctX6_tickAfter {l : Launch} {dC : Nat → ClassId} {dI : Nat → Nat → Nat} {cI : ClassId × ClassId} {cW : List zSh} {q : Nat → Nat} (hq : zI cW q) {b : Nat} (hb0 : isWk cI cW b) {a1 : Int32} {S : zT} {o : Int32 × zT} (h : fX6_tickAfter b a1 S = some o) : zCi l dC dI cI cW q yX6_tickAfter (Cond.code yX6_tickAfter cX6_tickAfter 2 (some .int) :: zU) rmX6_tickAfter [.ref (q b), .int a1] S o := by
  refine zMet_i (lv := [(0, .ref (q b)), (1, .int a1)]) (by decide) (Nat.le_of_ble_eq_true rfl) rfl ?_
  intro p e s m args below meth c Q hx hb hml hr hU hown hlocks hK hN hP hS ls hl hQ
  replace hown : s.vm.findClass RX6 = some m.cls := hown
  unfold fX6_tickAfter at h
  refine lv_iload_n hx hb dX6_tickAfter_0 rfl (lv_at hl 1 rfl) ?_
  refine lv_iconst (v := 1) hx hb dX6_tickAfter_1 rfl ?_
  refine lv_iadd hx hb dX6_tickAfter_2 ?_
  refine lv_aload_n hx hb dX6_tickAfter_3 rfl (lv_at hl 0 rfl) ?_
  refine z_get hx hb hU uU_X6 hown hK hP hb0.1 rfl rfl 6 (by decide) (hU _ uF_X6_49) rfl dX6_tickAfter_4 ?_
  refine z_icmp_ge (tgt := 16) hx hb dX6_tickAfter_7 (by decide) h (fun h => ?_) (fun h => ?_)
  · refine lv_iconst (v := 0) hx hb dX6_tickAfter_16 rfl ?_
    exact z_iret hx hb hlocks hP hS hQ hr dX6_tickAfter_17 h
  · refine lv_iload_n hx hb dX6_tickAfter_10 rfl (lv_at hl 1 rfl) ?_
    refine lv_iconst (v := 1) hx hb dX6_tickAfter_11 rfl ?_
    refine lv_iadd hx hb dX6_tickAfter_12 ?_
    refine lv_goto (tgt := 17) hx hb dX6_tickAfter_13 (by decide) ?_
    exact z_iret hx hb hlocks hP hS hQ hr dX6_tickAfter_17 h

def fX5_readStance_86 (rec : Int32 → Int32 → Int32 → Int32 → zT → Option zT) (x1 : Int32) (x3 : Int32) (x5 : Int32) (x6 : Int32) (S : zT) : Option zT :=
  (if x3 < x6 then some S else zbv (fX2_put 75 128 ((x1 * 16) + x5) (x3 - (2 * x6)) S) fun S_1 =>
  zbi (fX6_tickAfter 68 x5 S_1) fun r_3 S_2 =>
  rec x1 x3 r_3 (x6 + 1) S_2)
def fX5_readStance_60 (x1 : Int32) (x2 : Int32) (x3 : Int32) (S : zT) : Option zT :=
  zbi (fX2_at 77 8 x1 S) fun r_5 S_4 =>
  zbv (fX2_put 77 8 x1 (if r_5 < x3 then x3 else r_5) S_4) fun S_6 =>
  (zfix (fun _ _ _ _ _ => none) fX5_readStance_86 zF) x1 x3 x2 0 S_6
def fX5_readStance_8 (rec : Int32 → Int32 → Int32 → Int32 → Int32 → zT → Option zT) (x1 : Int32) (x2 : Int32) (x3 : Int32) (x4 : Int32) (x5 : Int32) (S : zT) : Option zT :=
  (if (S.1 68 6) ≤ x5 then fX5_readStance_60 x1 x2 x3 S else zbi (fX6_tickAfter 68 x4 S) fun r_8 S_7 =>
  zbi (fX6_isDown 68 x1 r_8 S_7) fun r_10 S_9 =>
  (if r_10 = 0 then fX5_readStance_60 x1 x2 x3 S_9 else zbi (fX6_tickAfter 68 x4 S_9) fun r_12 S_11 =>
  rec x1 x2 (x3 + 1) r_12 (x5 + 1) S_11))
def fX5_readStance (a1 : Int32) (a2 : Int32) (S : zT) : Option zT :=
  (zfix (fun _ _ _ _ _ _ => none) fX5_readStance_8 zF) a1 a2 0 a2 1 S
abbrev rmX5_readStance : Room := { frames := 2, cells := 0, slots := 0, locals := 43 }
theorem yd_X5_readStance : yX5_readStance.cls = RX5 ∧ yX5_readStance.cls ≠ "java/lang/invoke/MethodHandle" ∧ yX5_readStance.cls ≠ "java/lang/invoke/VarHandle" ∧ (parseMethodDescriptor yX5_readStance.desc).map (fun d => d.parameters.length) = some 2 := by decide +kernel
set_option maxRecDepth 100000 in
set_option maxHeartbeats 4000000 in
theorem ctX5_readStance {l : Launch} {dC : Nat → ClassId} {dI : Nat → Nat → Nat} {cI : ClassId × ClassId} {cW : List zSh} {q : Nat → Nat} (hq : zI cW q) (hW : zIs cI cW) {a1 : Int32} {a2 : Int32} {S : zT} {o : zT} (h : fX5_readStance a1 a2 S = some o) : zCv l dC dI cI cW q yX5_readStance (Cond.code yX5_readStance cX5_readStance 7 none :: zU) rmX5_readStance [.ref (q 67), .int a1, .int a2] S o := by
  refine zMet_v (lv := [(0, .ref (q 67)), (1, .int a1), (2, .int a2)]) (by decide) (Nat.le_of_ble_eq_true rfl) rfl ?_
  intro p e s m args below meth c Q hx hb hml hr hU hown hlocks hK hN hP hS ls hl hQ
  replace hown : s.vm.findClass RX5 = some m.cls := hown
  unfold fX5_readStance at h
  have L8 : ∀ (n8 : Nat) (x1 : Int32) (x2 : Int32) (x3 : Int32) (x4 : Int32) (x5 : Int32) (S : zT) (H : Heap) (locs : List Loc) (ls : Array Slot), va_P (dC, dI) vwCl (zWd cI cW q S) H → va_S (zA cW q) s.heap H locs → lv_has ls 7 [(0, .ref (q 67)), (1, .int x1), (2, .int x2), (3, .int x3), (4, .int x4), (5, .int x5)] → (zfix (fun _ _ _ _ _ _ => none) fX5_readStance_8 n8) x1 x2 x3 x4 x5 S = some o → W p l e rmX5_readStance s m args below meth c H locs 0 0 Q (F0 m 8 ls []) := by
    intro n8
    induction n8 with
    | zero => intro x1 x2 x3 x4 x5 S H locs ls hP hS hl h; exact zno (show (none : Option zT) = some o from h)
    | succ n8 ih8 =>
      intro x1 x2 x3 x4 x5 S H locs ls hP hS hl h
      replace h : fX5_readStance_8 (zfix (fun _ _ _ _ _ _ => none) fX5_readStance_8 n8) x1 x2 x3 x4 x5 S = some o := h
      unfold fX5_readStance_8 at h
      have L60 : ∀ (x1 : Int32) (x2 : Int32) (x3 : Int32) (S : zT) (H : Heap) (locs : List Loc) (ls : Array Slot), va_P (dC, dI) vwCl (zWd cI cW q S) H → va_S (zA cW q) s.heap H locs → lv_has ls 7 [(0, .ref (q 67)), (1, .int x1), (2, .int x2), (3, .int x3)] → fX5_readStance_60 x1 x2 x3 S = some o → W p l e rmX5_readStance s m args below meth c H locs 0 0 Q (F0 m 60 ls []) := by
        intro x1 x2 x3 S H locs ls hP hS hl h
        unfold fX5_readStance_60 at h
        have L86 : ∀ (n86 : Nat) (x1 : Int32) (x3 : Int32) (x5 : Int32) (x6 : Int32) (S : zT) (H : Heap) (locs : List Loc) (ls : Array Slot), va_P (dC, dI) vwCl (zWd cI cW q S) H → va_S (zA cW q) s.heap H locs → lv_has ls 7 [(0, .ref (q 67)), (1, .int x1), (3, .int x3), (5, .int x5), (6, .int x6)] → (zfix (fun _ _ _ _ _ => none) fX5_readStance_86 n86) x1 x3 x5 x6 S = some o → W p l e rmX5_readStance s m args below meth c H locs 0 0 Q (F0 m 86 ls []) := by
          intro n86
          induction n86 with
          | zero => intro x1 x3 x5 x6 S H locs ls hP hS hl h; exact zno (show (none : Option zT) = some o from h)
          | succ n86 ih86 =>
            intro x1 x3 x5 x6 S H locs ls hP hS hl h
            replace h : fX5_readStance_86 (zfix (fun _ _ _ _ _ => none) fX5_readStance_86 n86) x1 x3 x5 x6 S = some o := h
            unfold fX5_readStance_86 at h
            refine lv_iload hx hb dX5_readStance_86 (lv_at hl 4 rfl) ?_
            refine lv_iload_n hx hb dX5_readStance_88 rfl (lv_at hl 2 rfl) ?_
            refine z_icmp_gt (tgt := 129) hx hb dX5_readStance_89 (by decide) h (fun h => ?_) (fun h => ?_)
            · exact z_vret hx hb hlocks hP hS hQ hr dX5_readStance_129 h
            · refine lv_aload_n hx hb dX5_readStance_92 rfl (lv_at hl 0 rfl) ?_
              refine z_get hx hb hU uU_X5 hown hK hP (p_67 hW) rfl rfl 1 (by decide) (hU _ uF_X5_23) rfl dX5_readStance_93 ?_
              refine lv_iload_n hx hb dX5_readStance_96 rfl (lv_at hl 1 rfl) ?_
              refine lv_bipush (v := 16) hx hb dX5_readStance_97 rfl ?_
              refine lv_imul hx hb dX5_readStance_99 ?_
              refine lv_iload hx hb dX5_readStance_100 (lv_at hl 3 rfl) ?_
              refine lv_iadd hx hb dX5_readStance_102 ?_
              refine lv_iload_n hx hb dX5_readStance_103 rfl (lv_at hl 2 rfl) ?_
              refine lv_iconst (v := 2) hx hb dX5_readStance_104 rfl ?_
              refine lv_iload hx hb dX5_readStance_105 (lv_at hl 4 rfl) ?_
              refine lv_imul hx hb dX5_readStance_107 ?_
              refine lv_isub hx hb dX5_readStance_108 ?_
              refine z_callV_v hx hb hml hown hU hK hN hP hS 2 (pR_75 hW).1 rfl rfl (zU_V uL_X5_66 uI_X2_put uS_X2_put uN_X2 uC_X2_put) yd_X2_put ⟨rfl, rfl⟩ ⟨Nat.le_of_ble_eq_true rfl, Nat.le_of_ble_eq_true rfl⟩ (As := [.int ((x1 * 16) + x5), .int (x3 - (2 * x6))]) (fun o h9 => ctX2_put hq (pR_75 hW) h9) rfl hl.1 rfl (Nat.le_of_ble_eq_true rfl) dX5_readStance_109 ⟨Nat.zero_le _, Nat.zero_le _⟩ h (fun S_1 H locs hP hS h => ?_)
              refine lv_aload_n hx hb dX5_readStance_112 rfl (lv_at hl 0 rfl) ?_
              refine z_get hx hb hU uU_X5 hown hK hP (p_67 hW) rfl rfl 0 (by decide) (hU _ uF_X5_12) rfl dX5_readStance_113 ?_
              refine lv_iload hx hb dX5_readStance_116 (lv_at hl 3 rfl) ?_
              refine z_callV_i hx hb hml hown hU hK hN hP hS 1 (pW_68 hW).1 rfl rfl (zU_V uL_X5_87 uI_X6_tickAfter uS_X6_tickAfter uN_X6 uC_X6_tickAfter) yd_X6_tickAfter ⟨rfl, rfl⟩ ⟨Nat.le_of_ble_eq_true rfl, Nat.le_of_ble_eq_true rfl⟩ (As := [.int x5]) (fun o h9 => ctX6_tickAfter hq (pW_68 hW) h9) rfl hl.1 rfl (Nat.le_of_ble_eq_true rfl) dX5_readStance_118 ⟨Nat.zero_le _, Nat.zero_le _⟩ h (fun r_3 S_2 H locs hP hS h => ?_)
              refine lv_istore (lv' := [(5, .int r_3), (0, .ref (q 67)), (1, .int x1), (3, .int x3), (6, .int x6)]) hx hb dX5_readStance_121 hl (by decide) rfl (fun ls hl => ?_)
              refine lv_iinc (v := (x6 + 1)) (lv' := [(6, .int (x6 + 1)), (5, .int r_3), (0, .ref (q 67)), (1, .int x1), (3, .int x3)]) hx hb dX5_readStance_123 hl (k := 4) rfl rfl (by decide) rfl (fun ls hl => ?_)
              refine lv_goto (tgt := 86) hx hb dX5_readStance_126 (by decide) ?_
              exact ih86 x1 x3 r_3 (x6 + 1) _ _ _ ls hP hS (lv_sub hl [2, 3, 4, 1, 0] rfl) h
        refine lv_aload_n hx hb dX5_readStance_60 rfl (lv_at hl 0 rfl) ?_
        refine z_get hx hb hU uU_X5 hown hK hP (p_67 hW) rfl rfl 2 (by decide) (hU _ uF_X5_27) rfl dX5_readStance_61 ?_
        refine lv_iload_n hx hb dX5_readStance_64 rfl (lv_at hl 1 rfl) ?_
        refine lv_aload_n hx hb dX5_readStance_65 rfl (lv_at hl 0 rfl) ?_
        refine z_get hx hb hU uU_X5 hown hK hP (p_67 hW) rfl rfl 2 (by decide) (hU _ uF_X5_27) rfl dX5_readStance_66 ?_
        refine lv_iload_n hx hb dX5_readStance_69 rfl (lv_at hl 1 rfl) ?_
        refine z_callV_i hx hb hml hown hU hK hN hP hS 1 (pR_77 hW).1 rfl rfl (zU_V uL_X5_70 uI_X2_at uS_X2_at uN_X2 uC_X2_at) yd_X2_at ⟨rfl, rfl⟩ ⟨Nat.le_of_ble_eq_true rfl, Nat.le_of_ble_eq_true rfl⟩ (As := [.int x1]) (fun o h9 => ctX2_at hq (pR_77 hW) h9) rfl hl.1 rfl (Nat.le_of_ble_eq_true rfl) dX5_readStance_70 ⟨Nat.zero_le _, Nat.zero_le _⟩ h (fun r_5 S_4 H locs hP hS h => ?_)
        refine lv_iload_n hx hb dX5_readStance_73 rfl (lv_at hl 3 rfl) ?_
        refine va_mmax hx hb (hml.trans hl.1.symm) hown (hU _ uL_X5_90) (hU _ uT_J9_max_7cf53) (hU _ uN_J9) (hU _ uC_J9_max_7cf53) (Nat.le_of_ble_eq_true rfl) (Nat.le_of_ble_eq_true rfl) (Nat.zero_le _) (Nat.zero_le _) dX5_readStance_74 ?_
        refine z_callV_v hx hb hml hown hU hK hN hP hS 2 (pR_77 hW).1 rfl rfl (zU_V uL_X5_66 uI_X2_put uS_X2_put uN_X2 uC_X2_put) yd_X2_put ⟨rfl, rfl⟩ ⟨Nat.le_of_ble_eq_true rfl, Nat.le_of_ble_eq_true rfl⟩ (As := [.int x1, .int (if r_5 < x3 then x3 else r_5)]) (fun o h9 => ctX2_put hq (pR_77 hW) h9) rfl hl.1 rfl (Nat.le_of_ble_eq_true rfl) dX5_readStance_77 ⟨Nat.zero_le _, Nat.zero_le _⟩ h (fun S_6 H locs hP hS h => ?_)
        refine lv_iload_n hx hb dX5_readStance_80 rfl (lv_at hl 2 rfl) ?_
        refine lv_istore (lv' := [(5, .int x2), (0, .ref (q 67)), (1, .int x1), (2, .int x2), (3, .int x3)]) hx hb dX5_readStance_81 hl (by decide) rfl (fun ls hl => ?_)
        refine lv_iconst (v := 0) hx hb dX5_readStance_83 rfl ?_
        refine lv_istore (lv' := [(6, .int 0), (5, .int x2), (0, .ref (q 67)), (1, .int x1), (2, .int x2), (3, .int x3)]) hx hb dX5_readStance_84 hl (by decide) rfl (fun ls hl => ?_)
        exact L86 zF x1 x3 x2 0 _ _ _ ls hP hS (lv_sub hl [2, 3, 5, 1, 0] rfl) h
      refine lv_iload hx hb dX5_readStance_8 (lv_at hl 5 rfl) ?_
      refine lv_aload_n hx hb dX5_readStance_10 rfl (lv_at hl 0 rfl) ?_
      refine z_get hx hb hU uU_X5 hown hK hP (p_67 hW) rfl rfl 0 (by decide) (hU _ uF_X5_12) rfl dX5_readStance_11 ?_
      refine z_get hx hb hU uU_X6 hown hK hP (pW_68 hW).1 rfl rfl 6 (by decide) (hU _ uF_X5_74) rfl dX5_readStance_14 ?_
      refine z_icmp_ge (tgt := 60) hx hb dX5_readStance_17 (by decide) h (fun h => ?_) (fun h => ?_)
      · exact L60 x1 x2 x3 _ _ _ ls hP hS (lv_sub hl [0, 1, 2, 3] rfl) h
      · refine lv_aload_n hx hb dX5_readStance_20 rfl (lv_at hl 0 rfl) ?_
        refine z_get hx hb hU uU_X5 hown hK hP (p_67 hW) rfl rfl 0 (by decide) (hU _ uF_X5_12) rfl dX5_readStance_21 ?_
        refine lv_iload_n hx hb dX5_readStance_24 rfl (lv_at hl 1 rfl) ?_
        refine lv_aload_n hx hb dX5_readStance_25 rfl (lv_at hl 0 rfl) ?_
        refine z_get hx hb hU uU_X5 hown hK hP (p_67 hW) rfl rfl 0 (by decide) (hU _ uF_X5_12) rfl dX5_readStance_26 ?_
        refine lv_iload hx hb dX5_readStance_29 (lv_at hl 4 rfl) ?_
        refine z_callV_i hx hb hml hown hU hK hN hP hS 1 (pW_68 hW).1 rfl rfl (zU_V uL_X5_87 uI_X6_tickAfter uS_X6_tickAfter uN_X6 uC_X6_tickAfter) yd_X6_tickAfter ⟨rfl, rfl⟩ ⟨Nat.le_of_ble_eq_true rfl, Nat.le_of_ble_eq_true rfl⟩ (As := [.int x4]) (fun o h9 => ctX6_tickAfter hq (pW_68 hW) h9) rfl hl.1 rfl (Nat.le_of_ble_eq_true rfl) dX5_readStance_31 ⟨Nat.zero_le _, Nat.zero_le _⟩ h (fun r_8 S_7 H locs hP hS h => ?_)
        refine z_callV_i hx hb hml hown hU hK hN hP hS 2 (pW_68 hW).1 rfl rfl (zU_V uL_X5_77 uI_X6_isDown uS_X6_isDown uN_X6 uC_X6_isDown) yd_X6_isDown ⟨rfl, rfl⟩ ⟨Nat.le_of_ble_eq_true rfl, Nat.le_of_ble_eq_true rfl⟩ (As := [.int x1, .int r_8]) (fun o h9 => ctX6_isDown hq (pW_68 hW) h9) rfl hl.1 rfl (Nat.le_of_ble_eq_true rfl) dX5_readStance_34 ⟨Nat.zero_le _, Nat.zero_le _⟩ h (fun r_10 S_9 H locs hP hS h => ?_)
        refine z_if_eq (tgt := 60) hx hb dX5_readStance_37 (by decide) h (fun h => ?_) (fun h => ?_)
        · exact L60 x1 x2 x3 _ _ _ ls hP hS (lv_sub hl [0, 1, 2, 3] rfl) h
        · refine lv_aload_n hx hb dX5_readStance_40 rfl (lv_at hl 0 rfl) ?_
          refine z_get hx hb hU uU_X5 hown hK hP (p_67 hW) rfl rfl 0 (by decide) (hU _ uF_X5_12) rfl dX5_readStance_41 ?_
          refine lv_iload hx hb dX5_readStance_44 (lv_at hl 4 rfl) ?_
          refine z_callV_i hx hb hml hown hU hK hN hP hS 1 (pW_68 hW).1 rfl rfl (zU_V uL_X5_87 uI_X6_tickAfter uS_X6_tickAfter uN_X6 uC_X6_tickAfter) yd_X6_tickAfter ⟨rfl, rfl⟩ ⟨Nat.le_of_ble_eq_true rfl, Nat.le_of_ble_eq_true rfl⟩ (As := [.int x4]) (fun o h9 => ctX6_tickAfter hq (pW_68 hW) h9) rfl hl.1 rfl (Nat.le_of_ble_eq_true rfl) dX5_readStance_46 ⟨Nat.zero_le _, Nat.zero_le _⟩ h (fun r_12 S_11 H locs hP hS h => ?_)
          refine lv_istore (lv' := [(4, .int r_12), (0, .ref (q 67)), (1, .int x1), (2, .int x2), (3, .int x3), (5, .int x5)]) hx hb dX5_readStance_49 hl (by decide) rfl (fun ls hl => ?_)
          refine lv_iinc (v := (x3 + 1)) (lv' := [(3, .int (x3 + 1)), (4, .int r_12), (0, .ref (q 67)), (1, .int x1), (2, .int x2), (5, .int x5)]) hx hb dX5_readStance_51 hl (k := 4) rfl rfl (by decide) rfl (fun ls hl => ?_)
          refine lv_iinc (v := (x5 + 1)) (lv' := [(5, .int (x5 + 1)), (3, .int (x3 + 1)), (4, .int r_12), (0, .ref (q 67)), (1, .int x1), (2, .int x2)]) hx hb dX5_readStance_54 hl (k := 5) rfl rfl (by decide) rfl (fun ls hl => ?_)
          refine lv_goto (tgt := 8) hx hb dX5_readStance_57 (by decide) ?_
          exact ih8 x1 x2 (x3 + 1) r_12 (x5 + 1) _ _ _ ls hP hS (lv_sub hl [3, 4, 5, 1, 2, 0] rfl) h
  refine lv_iconst (v := 0) hx hb dX5_readStance_0 rfl ?_
  refine lv_istore_n (lv' := [(3, .int 0), (0, .ref (q 67)), (1, .int a1), (2, .int a2)]) hx hb dX5_readStance_1 rfl hl (by decide) rfl (fun ls hl => ?_)
  refine lv_iload_n hx hb dX5_readStance_2 rfl (lv_at hl 3 rfl) ?_
  refine lv_istore (lv' := [(4, .int a2), (3, .int 0), (0, .ref (q 67)), (1, .int a1), (2, .int a2)]) hx hb dX5_readStance_3 hl (by decide) rfl (fun ls hl => ?_)
  refine lv_iconst (v := 1) hx hb dX5_readStance_5 rfl ?_
  refine lv_istore (lv' := [(5, .int 1), (4, .int a2), (3, .int 0), (0, .ref (q 67)), (1, .int a1), (2, .int a2)]) hx hb dX5_readStance_6 hl (by decide) rfl (fun ls hl => ?_)
  exact L8 zF a1 a2 0 a2 1 _ _ _ ls hP hS (lv_sub hl [3, 4, 5, 2, 1, 0] rfl) h

