def fX8_unlike_116 (k45 : Int32 → Int32 → Int32 → Int32 → Int32 → Int32 → zT → Option (Int32 × zT)) (x1 : Int32) (x2 : Int32) (x3 : Int32) (x4 : Int32) (x5 : Int32) (x6 : Int32) (S : zT) : Option (Int32 × zT) :=
  k45 x1 x2 x3 x4 x5 (x6 + 1) S
def fX8_unlike_105 (k116 : Int32 → Int32 → Int32 → Int32 → Int32 → Int32 → zT → Option (Int32 × zT)) (x1 : Int32) (x2 : Int32) (x3 : Int32) (x4 : Int32) (x5 : Int32) (x6 : Int32) (x7 : Int32) (S : zT) : Option (Int32 × zT) :=
  (if x7 = 0 then k116 x1 x2 x3 x4 x5 x6 S else k116 x1 x2 x3 x4 (x5 + 1) x6 S)
def fX8_unlike_103 (k105 : Int32 → Int32 → Int32 → Int32 → Int32 → Int32 → Int32 → zT → Option (Int32 × zT)) (x1 : Int32) (x2 : Int32) (x3 : Int32) (x4 : Int32) (x5 : Int32) (x6 : Int32) (t0 : Int32) (S : zT) : Option (Int32 × zT) :=
  k105 x1 x2 x3 x4 x5 x6 t0 S
def fX8_unlike_98 (k103 : Int32 → Int32 → Int32 → Int32 → Int32 → Int32 → Int32 → zT → Option (Int32 × zT)) (x1 : Int32) (x2 : Int32) (x3 : Int32) (x4 : Int32) (x5 : Int32) (x6 : Int32) (S : zT) : Option (Int32 × zT) :=
  k103 x1 x2 x3 x4 x5 x6 1 S
def fX8_unlike_45 (rec : Int32 → Int32 → Int32 → Int32 → Int32 → Int32 → zT → Option (Int32 × zT)) (x1 : Int32) (x2 : Int32) (x3 : Int32) (x4 : Int32) (x5 : Int32) (x6 : Int32) (S : zT) : Option (Int32 × zT) :=
  (if x3 ≤ x6 then zbv (fX8_comeBack S) fun S_1 =>
  some (x5, S_1) else zbi (fX8_tries x1 x2 x6 S) fun r_3 S_2 =>
  (if r_3 = 0 then (fX8_unlike_116 rec) x1 x2 x3 x4 x5 x6 S_2 else (if x4 = 0 then (fX8_unlike_105 (fX8_unlike_116 rec)) x1 x2 x3 x4 x5 x6 1 S_2 else zbi (fX8_mirror x1 S_2) fun r_5 S_4 =>
  (if x6 ≤ r_5 then (fX8_unlike_98 (fX8_unlike_103 (fX8_unlike_105 (fX8_unlike_116 rec)))) x1 x2 x3 x4 x5 x6 S_4 else zbi (fX8_tries x1 x2 r_5 S_4) fun r_7 S_6 =>
  (if r_7 = 0 then (fX8_unlike_98 (fX8_unlike_103 (fX8_unlike_105 (fX8_unlike_116 rec)))) x1 x2 x3 x4 x5 x6 S_6 else (fX8_unlike_103 (fX8_unlike_105 (fX8_unlike_116 rec))) x1 x2 x3 x4 x5 x6 0 S_6)))))
def fX8_unlike (a1 : Int32) (a2 : Int32) (S : zT) : Option (Int32 × zT) :=
  zlet (zsi S 101 0 0) fun S_8 =>
  zbv (fX8_begins S_8) fun S_9 =>
  zbi (fX8_rows a1 a2 (S_9.1 102 0) S_9) fun r_11 S_10 =>
  (if r_11 = (-1) then some ((-1), S_10) else zbv (fX8_goAside S_10) fun S_12 =>
  zbi (fX8_isMirrored S_12) fun r_14 S_13 =>
  (zfix (fun _ _ _ _ _ _ _ => none) fX8_unlike_45 zF) a1 a2 r_11 r_14 0 0 S_13)
abbrev rmX8_unlike : Room := { frames := 8, cells := 0, slots := 0, locals := 180 }
theorem yd_X8_unlike : yX8_unlike.cls = RX8 ∧ yX8_unlike.cls ≠ "java/lang/invoke/MethodHandle" ∧ yX8_unlike.cls ≠ "java/lang/invoke/VarHandle" ∧ (parseMethodDescriptor yX8_unlike.desc).map (fun d => d.parameters.length) = some 2 := by decide +kernel
set_option maxRecDepth 100000 in
set_option maxHeartbeats 4000000 in
theorem ctX8_unlike {l : Launch} {dC : Nat → ClassId} {dI : Nat → Nat → Nat} {cI : ClassId × ClassId} {cW : List zSh} {q : Nat → Nat} (hq : zI cW q) (hW : zIs cI cW) {a1 : Int32} {a2 : Int32} {S : zT} {o : Int32 × zT} (h : fX8_unlike a1 a2 S = some o) : zCi l dC dI cI cW q yX8_unlike (Cond.code yX8_unlike cX8_unlike 9 (some .int) :: zU) rmX8_unlike [.ref (q 101), .int a1, .int a2] S o := by
  refine zMet_i (lv := [(0, .ref (q 101)), (1, .int a1), (2, .int a2)]) (by decide) (Nat.le_of_ble_eq_true rfl) rfl ?_
  intro p e s m args below meth c Q hx hb hml hr hU hown hlocks hK hN hP hS ls hl hQ
  replace hown : s.vm.findClass RX8 = some m.cls := hown
  unfold fX8_unlike at h
  have L45 : ∀ (n45 : Nat) (x1 : Int32) (x2 : Int32) (x3 : Int32) (x4 : Int32) (x5 : Int32) (x6 : Int32) (S : zT) (H : Heap) (locs : List Loc) (ls : Array Slot), va_P (dC, dI) vwCl (zWd cI cW q S) H → va_S (zA cW q) s.heap H locs → lv_has ls 9 [(0, .ref (q 101)), (1, .int x1), (2, .int x2), (3, .int x3), (4, .int x4), (5, .int x5), (6, .int x6)] → (zfix (fun _ _ _ _ _ _ _ => none) fX8_unlike_45 n45) x1 x2 x3 x4 x5 x6 S = some o → W p l e rmX8_unlike s m args below meth c H locs 0 0 Q (F0 m 45 ls []) := by
    intro n45
    induction n45 with
    | zero => intro x1 x2 x3 x4 x5 x6 S H locs ls hP hS hl h; exact zno (show (none : Option (Int32 × zT)) = some o from h)
    | succ n45 ih45 =>
      intro x1 x2 x3 x4 x5 x6 S H locs ls hP hS hl h
      replace h : fX8_unlike_45 (zfix (fun _ _ _ _ _ _ _ => none) fX8_unlike_45 n45) x1 x2 x3 x4 x5 x6 S = some o := h
      unfold fX8_unlike_45 at h
      have L116 : ∀ (x1 : Int32) (x2 : Int32) (x3 : Int32) (x4 : Int32) (x5 : Int32) (x6 : Int32) (S : zT) (H : Heap) (locs : List Loc) (ls : Array Slot), va_P (dC, dI) vwCl (zWd cI cW q S) H → va_S (zA cW q) s.heap H locs → lv_has ls 9 [(0, .ref (q 101)), (1, .int x1), (2, .int x2), (3, .int x3), (4, .int x4), (5, .int x5), (6, .int x6)] → (fX8_unlike_116 (zfix (fun _ _ _ _ _ _ _ => none) fX8_unlike_45 n45)) x1 x2 x3 x4 x5 x6 S = some o → W p l e rmX8_unlike s m args below meth c H locs 0 0 Q (F0 m 116 ls []) := by
        intro x1 x2 x3 x4 x5 x6 S H locs ls hP hS hl h
        unfold fX8_unlike_116 at h
        refine lv_iinc (v := (x6 + 1)) (lv' := [(6, .int (x6 + 1)), (0, .ref (q 101)), (1, .int x1), (2, .int x2), (3, .int x3), (4, .int x4), (5, .int x5)]) hx hb dX8_unlike_116 hl (k := 6) rfl rfl (by decide) rfl (fun ls hl => ?_)
        refine lv_goto (tgt := 45) hx hb dX8_unlike_119 (by decide) ?_
        exact ih45 x1 x2 x3 x4 x5 (x6 + 1) _ _ _ ls hP hS (lv_sub hl [1, 2, 3, 4, 5, 6, 0] rfl) h
      have L105 : ∀ (x1 : Int32) (x2 : Int32) (x3 : Int32) (x4 : Int32) (x5 : Int32) (x6 : Int32) (x7 : Int32) (S : zT) (H : Heap) (locs : List Loc) (ls : Array Slot), va_P (dC, dI) vwCl (zWd cI cW q S) H → va_S (zA cW q) s.heap H locs → lv_has ls 9 [(0, .ref (q 101)), (1, .int x1), (2, .int x2), (3, .int x3), (4, .int x4), (5, .int x5), (6, .int x6), (7, .int x7)] → (fX8_unlike_105 (fX8_unlike_116 (zfix (fun _ _ _ _ _ _ _ => none) fX8_unlike_45 n45))) x1 x2 x3 x4 x5 x6 x7 S = some o → W p l e rmX8_unlike s m args below meth c H locs 0 0 Q (F0 m 105 ls []) := by
        intro x1 x2 x3 x4 x5 x6 x7 S H locs ls hP hS hl h
        unfold fX8_unlike_105 at h
        refine lv_iload hx hb dX8_unlike_105 (lv_at hl 7 rfl) ?_
        refine z_if_eq (tgt := 116) hx hb dX8_unlike_107 (by decide) h (fun h => ?_) (fun h => ?_)
        · exact L116 x1 x2 x3 x4 x5 x6 _ _ _ ls hP hS (lv_sub hl [0, 1, 2, 3, 4, 5, 6] rfl) h
        · refine lv_iload hx hb dX8_unlike_110 (lv_at hl 5 rfl) ?_
          refine lv_iconst (v := 1) hx hb dX8_unlike_112 rfl ?_
          refine lv_iadd hx hb dX8_unlike_113 ?_
          refine lv_istore (lv' := [(5, .int (x5 + 1)), (0, .ref (q 101)), (1, .int x1), (2, .int x2), (3, .int x3), (4, .int x4), (6, .int x6), (7, .int x7)]) hx hb dX8_unlike_114 hl (by decide) rfl (fun ls hl => ?_)
          exact L116 x1 x2 x3 x4 (x5 + 1) x6 _ _ _ ls hP hS (lv_sub hl [1, 2, 3, 4, 5, 0, 6] rfl) h
      have L103 : ∀ (x1 : Int32) (x2 : Int32) (x3 : Int32) (x4 : Int32) (x5 : Int32) (x6 : Int32) (t0 : Int32) (S : zT) (H : Heap) (locs : List Loc) (ls : Array Slot), va_P (dC, dI) vwCl (zWd cI cW q S) H → va_S (zA cW q) s.heap H locs → lv_has ls 9 [(0, .ref (q 101)), (1, .int x1), (2, .int x2), (3, .int x3), (4, .int x4), (5, .int x5), (6, .int x6)] → (fX8_unlike_103 (fX8_unlike_105 (fX8_unlike_116 (zfix (fun _ _ _ _ _ _ _ => none) fX8_unlike_45 n45)))) x1 x2 x3 x4 x5 x6 t0 S = some o → W p l e rmX8_unlike s m args below meth c H locs 0 0 Q (F0 m 103 ls [.int t0]) := by
        intro x1 x2 x3 x4 x5 x6 t0 S H locs ls hP hS hl h
        unfold fX8_unlike_103 at h
        refine lv_istore (lv' := [(7, .int t0), (0, .ref (q 101)), (1, .int x1), (2, .int x2), (3, .int x3), (4, .int x4), (5, .int x5), (6, .int x6)]) hx hb dX8_unlike_103 hl (by decide) rfl (fun ls hl => ?_)
        exact L105 x1 x2 x3 x4 x5 x6 t0 _ _ _ ls hP hS (lv_sub hl [1, 2, 3, 4, 5, 6, 7, 0] rfl) h
      have L98 : ∀ (x1 : Int32) (x2 : Int32) (x3 : Int32) (x4 : Int32) (x5 : Int32) (x6 : Int32) (S : zT) (H : Heap) (locs : List Loc) (ls : Array Slot), va_P (dC, dI) vwCl (zWd cI cW q S) H → va_S (zA cW q) s.heap H locs → lv_has ls 9 [(0, .ref (q 101)), (1, .int x1), (2, .int x2), (3, .int x3), (4, .int x4), (5, .int x5), (6, .int x6)] → (fX8_unlike_98 (fX8_unlike_103 (fX8_unlike_105 (fX8_unlike_116 (zfix (fun _ _ _ _ _ _ _ => none) fX8_unlike_45 n45))))) x1 x2 x3 x4 x5 x6 S = some o → W p l e rmX8_unlike s m args below meth c H locs 0 0 Q (F0 m 98 ls []) := by
        intro x1 x2 x3 x4 x5 x6 S H locs ls hP hS hl h
        unfold fX8_unlike_98 at h
        refine lv_iconst (v := 1) hx hb dX8_unlike_98 rfl ?_
        refine lv_goto (tgt := 103) hx hb dX8_unlike_99 (by decide) ?_
        exact L103 x1 x2 x3 x4 x5 x6 1 _ _ _ ls hP hS (lv_sub hl [0, 1, 2, 3, 4, 5, 6] rfl) h
      refine lv_iload hx hb dX8_unlike_45 (lv_at hl 6 rfl) ?_
      refine lv_iload_n hx hb dX8_unlike_47 rfl (lv_at hl 3 rfl) ?_
      refine z_icmp_ge (tgt := 122) hx hb dX8_unlike_48 (by decide) h (fun h => ?_) (fun h => ?_)
      · refine lv_aload_n hx hb dX8_unlike_122 rfl (lv_at hl 0 rfl) ?_
        refine z_callV_v hx hb hml hown hU hK hN hP hS 0 (p_101 hW) rfl rfl (zU_V uL_X8_204 uI_X8_comeBack uS_X8_comeBack uN_X8 uC_X8_comeBack) yd_X8_comeBack ⟨rfl, rfl⟩ ⟨Nat.le_of_ble_eq_true rfl, Nat.le_of_ble_eq_true rfl⟩ (As := []) (fun o h9 => ctX8_comeBack hq hW h9) rfl hl.1 rfl (Nat.le_of_ble_eq_true rfl) dX8_unlike_123 ⟨Nat.zero_le _, Nat.zero_le _⟩ h (fun S_1 H locs hP hS h => ?_)
        refine lv_iload hx hb dX8_unlike_126 (lv_at hl 5 rfl) ?_
        exact z_iret hx hb hlocks hP hS hQ hr dX8_unlike_128 h
      · refine lv_aload_n hx hb dX8_unlike_51 rfl (lv_at hl 0 rfl) ?_
        refine lv_iload_n hx hb dX8_unlike_52 rfl (lv_at hl 1 rfl) ?_
        refine lv_iload_n hx hb dX8_unlike_53 rfl (lv_at hl 2 rfl) ?_
        refine lv_iload hx hb dX8_unlike_54 (lv_at hl 6 rfl) ?_
        refine z_callV_i hx hb hml hown hU hK hN hP hS 3 (p_101 hW) rfl rfl (zU_V uL_X8_194 uI_X8_tries uS_X8_tries uN_X8 uC_X8_tries) yd_X8_tries ⟨rfl, rfl⟩ ⟨Nat.le_of_ble_eq_true rfl, Nat.le_of_ble_eq_true rfl⟩ (As := [.int x1, .int x2, .int x6]) (fun o h9 => ctX8_tries hq hW h9) rfl hl.1 rfl (Nat.le_of_ble_eq_true rfl) dX8_unlike_56 ⟨Nat.zero_le _, Nat.zero_le _⟩ h (fun r_3 S_2 H locs hP hS h => ?_)
        refine z_if_ne (tgt := 65) hx hb dX8_unlike_59 (by decide) h (fun h => ?_) (fun h => ?_)
        · refine lv_iconst (v := 1) hx hb dX8_unlike_65 rfl ?_
          refine lv_istore (lv' := [(7, .int 1), (0, .ref (q 101)), (1, .int x1), (2, .int x2), (3, .int x3), (4, .int x4), (5, .int x5), (6, .int x6)]) hx hb dX8_unlike_66 hl (by decide) rfl (fun ls hl => ?_)
          refine lv_iload hx hb dX8_unlike_68 (lv_at hl 5 rfl) ?_
          refine z_if_eq (tgt := 105) hx hb dX8_unlike_70 (by decide) h (fun h => ?_) (fun h => ?_)
          · exact L105 x1 x2 x3 x4 x5 x6 1 _ _ _ ls hP hS (lv_sub hl [1, 2, 3, 4, 5, 6, 7, 0] rfl) h
          · refine lv_aload_n hx hb dX8_unlike_73 rfl (lv_at hl 1 rfl) ?_
            refine lv_iload_n hx hb dX8_unlike_74 rfl (lv_at hl 2 rfl) ?_
            refine z_callV_i hx hb hml hown hU hK hN hP hS 1 (p_101 hW) rfl rfl (zU_V uL_X8_210 uI_X8_mirror uS_X8_mirror uN_X8 uC_X8_mirror) yd_X8_mirror ⟨rfl, rfl⟩ ⟨Nat.le_of_ble_eq_true rfl, Nat.le_of_ble_eq_true rfl⟩ (As := [.int x1]) (fun o h9 => ctX8_mirror hq hW h9) rfl hl.1 rfl (Nat.le_of_ble_eq_true rfl) dX8_unlike_75 ⟨Nat.zero_le _, Nat.zero_le _⟩ h (fun r_5 S_4 H locs hP hS h => ?_)
            refine lv_istore (lv' := [(8, .int r_5), (7, .int 1), (0, .ref (q 101)), (1, .int x1), (2, .int x2), (3, .int x3), (4, .int x4), (5, .int x5), (6, .int x6)]) hx hb dX8_unlike_78 hl (by decide) rfl (fun ls hl => ?_)
            refine lv_iload hx hb dX8_unlike_80 (lv_at hl 0 rfl) ?_
            refine lv_iload hx hb dX8_unlike_82 (lv_at hl 8 rfl) ?_
            refine z_icmp_ge (tgt := 98) hx hb dX8_unlike_84 (by decide) h (fun h => ?_) (fun h => ?_)
            · exact L98 x1 x2 x3 x4 x5 x6 _ _ _ ls hP hS (lv_sub hl [2, 3, 4, 5, 6, 7, 8] rfl) h
            · refine lv_aload_n hx hb dX8_unlike_87 rfl (lv_at hl 2 rfl) ?_
              refine lv_iload_n hx hb dX8_unlike_88 rfl (lv_at hl 3 rfl) ?_
              refine lv_iload_n hx hb dX8_unlike_89 rfl (lv_at hl 4 rfl) ?_
              refine lv_iload hx hb dX8_unlike_90 (lv_at hl 0 rfl) ?_
              refine z_callV_i hx hb hml hown hU hK hN hP hS 3 (p_101 hW) rfl rfl (zU_V uL_X8_194 uI_X8_tries uS_X8_tries uN_X8 uC_X8_tries) yd_X8_tries ⟨rfl, rfl⟩ ⟨Nat.le_of_ble_eq_true rfl, Nat.le_of_ble_eq_true rfl⟩ (As := [.int x1, .int x2, .int r_5]) (fun o h9 => ctX8_tries hq hW h9) rfl hl.1 rfl (Nat.le_of_ble_eq_true rfl) dX8_unlike_92 ⟨Nat.zero_le _, Nat.zero_le _⟩ h (fun r_7 S_6 H locs hP hS h => ?_)
              refine z_if_ne (tgt := 102) hx hb dX8_unlike_95 (by decide) h (fun h => ?_) (fun h => ?_)
              · refine lv_iconst (v := 0) hx hb dX8_unlike_102 rfl ?_
                exact L103 x1 x2 x3 x4 x5 x6 0 _ _ _ ls hP hS (lv_sub hl [2, 3, 4, 5, 6, 7, 8] rfl) h
              · exact L98 x1 x2 x3 x4 x5 x6 _ _ _ ls hP hS (lv_sub hl [2, 3, 4, 5, 6, 7, 8] rfl) h
        · refine lv_goto (tgt := 116) hx hb dX8_unlike_62 (by decide) ?_
          exact L116 x1 x2 x3 x4 x5 x6 _ _ _ ls hP hS (lv_sub hl [0, 1, 2, 3, 4, 5, 6] rfl) h
  refine lv_aload_n hx hb dX8_unlike_0 rfl (lv_at hl 0 rfl) ?_
  refine lv_iconst (v := 0) hx hb dX8_unlike_1 rfl ?_
  refine z_puti hx hb hU uU_X8 tyX8 tyX8_ok nmX8 hown hq hK hP hS (p_101 hW) rfl rfl 0 (by decide) (hU _ uF_X8_34) rfl rfl rfl (Nat.le_of_ble_eq_true rfl) rfl dX8_unlike_2 h (fun S_8 H locs hP hS h => ?_)
  refine lv_aload_n hx hb dX8_unlike_5 rfl (lv_at hl 0 rfl) ?_
  refine z_callV_v hx hb hml hown hU hK hN hP hS 0 (p_101 hW) rfl rfl (zU_V uL_X8_49 uI_X8_begins uS_X8_begins uN_X8 uC_X8_begins) yd_X8_begins ⟨rfl, rfl⟩ ⟨Nat.le_of_ble_eq_true rfl, Nat.le_of_ble_eq_true rfl⟩ (As := []) (fun o h9 => ctX8_begins hq hW h9) rfl hl.1 rfl (Nat.le_of_ble_eq_true rfl) dX8_unlike_6 ⟨Nat.zero_le _, Nat.zero_le _⟩ h (fun S_9 H locs hP hS h => ?_)
  refine lv_aload_n hx hb dX8_unlike_9 rfl (lv_at hl 0 rfl) ?_
  refine lv_iload_n hx hb dX8_unlike_10 rfl (lv_at hl 1 rfl) ?_
  refine lv_iload_n hx hb dX8_unlike_11 rfl (lv_at hl 2 rfl) ?_
  refine lv_aload_n hx hb dX8_unlike_12 rfl (lv_at hl 0 rfl) ?_
  refine z_get hx hb hU uU_X8 hown hK hP (p_101 hW) rfl rfl 1 (by decide) (hU _ uF_X8_7) rfl dX8_unlike_13 ?_
  refine lv_iconst (v := 0) hx hb dX8_unlike_16 rfl ?_
  refine z_ialdC (j := 0) hx hb hK hP (pA_102 hW) dX8_unlike_17 rfl (by decide) ?_
  refine z_callV_i hx hb hml hown hU hK hN hP hS 3 (p_101 hW) rfl rfl (zU_V uL_X8_190 uI_X8_rows uS_X8_rows uN_X8 uC_X8_rows) yd_X8_rows ⟨rfl, rfl⟩ ⟨Nat.le_of_ble_eq_true rfl, Nat.le_of_ble_eq_true rfl⟩ (As := [.int a1, .int a2, .int (S_9.1 102 0)]) (fun o h9 => ctX8_rows hq hW h9) rfl hl.1 rfl (Nat.le_of_ble_eq_true rfl) dX8_unlike_18 ⟨Nat.zero_le _, Nat.zero_le _⟩ h (fun r_11 S_10 H locs hP hS h => ?_)
  refine lv_istore_n (lv' := [(3, .int r_11), (0, .ref (q 101)), (1, .int a1), (2, .int a2)]) hx hb dX8_unlike_21 rfl hl (by decide) rfl (fun ls hl => ?_)
  refine lv_iload_n hx hb dX8_unlike_22 rfl (lv_at hl 0 rfl) ?_
  refine lv_iconst (v := (-1)) hx hb dX8_unlike_23 rfl ?_
  refine z_icmp_ne (tgt := 29) hx hb dX8_unlike_24 (by decide) h (fun h => ?_) (fun h => ?_)
  · refine lv_aload_n hx hb dX8_unlike_29 rfl (lv_at hl 1 rfl) ?_
    refine z_callV_v hx hb hml hown hU hK hN hP hS 0 (p_101 hW) rfl rfl (zU_V uL_X8_198 uI_X8_goAside uS_X8_goAside uN_X8 uC_X8_goAside) yd_X8_goAside ⟨rfl, rfl⟩ ⟨Nat.le_of_ble_eq_true rfl, Nat.le_of_ble_eq_true rfl⟩ (As := []) (fun o h9 => ctX8_goAside hq hW h9) rfl hl.1 rfl (Nat.le_of_ble_eq_true rfl) dX8_unlike_30 ⟨Nat.zero_le _, Nat.zero_le _⟩ h (fun S_12 H locs hP hS h => ?_)
    refine lv_aload_n hx hb dX8_unlike_33 rfl (lv_at hl 1 rfl) ?_
    refine z_callV_i hx hb hml hown hU hK hN hP hS 0 (p_101 hW) rfl rfl (zU_V uL_X8_81 uI_X8_isMirrored uS_X8_isMirrored uN_X8 uC_X8_isMirrored) yd_X8_isMirrored ⟨rfl, rfl⟩ ⟨Nat.le_of_ble_eq_true rfl, Nat.le_of_ble_eq_true rfl⟩ (As := []) (fun o h9 => ctX8_isMirrored hq hW h9) rfl hl.1 rfl (Nat.le_of_ble_eq_true rfl) dX8_unlike_34 ⟨Nat.zero_le _, Nat.zero_le _⟩ h (fun r_14 S_13 H locs hP hS h => ?_)
    refine lv_istore (lv' := [(4, .int r_14), (3, .int r_11), (0, .ref (q 101)), (1, .int a1), (2, .int a2)]) hx hb dX8_unlike_37 hl (by decide) rfl (fun ls hl => ?_)
    refine lv_iconst (v := 0) hx hb dX8_unlike_39 rfl ?_
    refine lv_istore (lv' := [(5, .int 0), (4, .int r_14), (3, .int r_11), (0, .ref (q 101)), (1, .int a1), (2, .int a2)]) hx hb dX8_unlike_40 hl (by decide) rfl (fun ls hl => ?_)
    refine lv_iconst (v := 0) hx hb dX8_unlike_42 rfl ?_
    refine lv_istore (lv' := [(6, .int 0), (5, .int 0), (4, .int r_14), (3, .int r_11), (0, .ref (q 101)), (1, .int a1), (2, .int a2)]) hx hb dX8_unlike_43 hl (by decide) rfl (fun ls hl => ?_)
    exact L45 zF a1 a2 r_11 r_14 0 0 _ _ _ ls hP hS (lv_sub hl [4, 5, 6, 3, 2, 1, 0] rfl) h
  · refine lv_iconst (v := (-1)) hx hb dX8_unlike_27 rfl ?_
    exact z_iret hx hb hlocks hP hS hQ hr dX8_unlike_28 h

def fX8_best_128 (k51 : Int32 → Int32 → Int32 → Int32 → Int32 → Int32 → Int64 → Int64 → Int32 → zT → Option (Int32 × zT)) (x1 : Int32) (x2 : Int32) (x3 : Int32) (x4 : Int32) (x5 : Int32) (x6 : Int32) (x7 : Int64) (x9 : Int64) (x11 : Int32) (S : zT) : Option (Int32 × zT) :=
  k51 x1 x2 x3 x4 x5 x6 x7 x9 (x11 + 1) S
def fX8_best_122 (k128 : Int32 → Int32 → Int32 → Int32 → Int32 → Int32 → Int64 → Int64 → Int32 → zT → Option (Int32 × zT)) (x1 : Int32) (x2 : Int32) (x3 : Int32) (x4 : Int32) (x5 : Int32) (x6 : Int32) (x7 : Int64) (x9 : Int64) (x11 : Int32) (S : zT) : Option (Int32 × zT) :=
  k128 x1 x2 x3 (x4 + 1) x5 x6 x7 x9 x11 S
def fX8_best_102 (k122 : Int32 → Int32 → Int32 → Int32 → Int32 → Int32 → Int64 → Int64 → Int32 → zT → Option (Int32 × zT)) (x1 : Int32) (x2 : Int32) (x3 : Int32) (x4 : Int32) (x11 : Int32) (S : zT) : Option (Int32 × zT) :=
  k122 x1 x2 x3 x4 x11 x4 (S.2 101 15) (S.2 101 16) x11 S
def fX8_best_51 (rec : Int32 → Int32 → Int32 → Int32 → Int32 → Int32 → Int64 → Int64 → Int32 → zT → Option (Int32 × zT)) (x1 : Int32) (x2 : Int32) (x3 : Int32) (x4 : Int32) (x5 : Int32) (x6 : Int32) (x7 : Int64) (x9 : Int64) (x11 : Int32) (S : zT) : Option (Int32 × zT) :=
  (if x3 ≤ x11 then zbv (fX8_comeBack S) fun S_1 =>
  (if x5 = (-1) then some ((-1), S_1) else zbv (fX8_keep S_1) fun S_2 =>
  zbv (fX8_offsets x1 x5 S_2) fun S_3 =>
  zbv (fX8_laysRow x1 x2 S_3) fun S_4 =>
  some (x6, S_4)) else zbi (fX8_tries x1 x2 x11 S) fun r_6 S_5 =>
  (if r_6 = 0 then (fX8_best_128 rec) x1 x2 x3 x4 x5 x6 x7 x9 x11 S_5 else zbi (fX8_worsts S_5) fun r_8 S_7 =>
  (if r_8 = 0 then (fX8_best_122 (fX8_best_128 rec)) x1 x2 x3 x4 x5 x6 x7 x9 x11 S_7 else (if x5 = (-1) then (fX8_best_102 (fX8_best_122 (fX8_best_128 rec))) x1 x2 x3 x4 x11 S_7 else (if (lg_cmp ((S_7.2 101 15) * x9) (x7 * (S_7.2 101 16))) ≤ 0 then (fX8_best_122 (fX8_best_128 rec)) x1 x2 x3 x4 x5 x6 x7 x9 x11 S_7 else (fX8_best_102 (fX8_best_122 (fX8_best_128 rec))) x1 x2 x3 x4 x11 S_7)))))
def fX8_best (a1 : Int32) (a2 : Int32) (S : zT) : Option (Int32 × zT) :=
  zlet (zsi S 101 0 0) fun S_9 =>
  zbv (fX8_begins S_9) fun S_10 =>
  zbi (fX8_rows a1 a2 (S_10.1 102 0) S_10) fun r_12 S_11 =>
  (if r_12 = (-1) then some ((-1), S_11) else zbv (fX8_goAside S_11) fun S_13 =>
  (zfix (fun _ _ _ _ _ _ _ _ _ _ => none) fX8_best_51 zF) a1 a2 r_12 0 (-1) (-1) 0 1 0 S_13)
abbrev rmX8_best : Room := { frames := 8, cells := 0, slots := 0, locals := 180 }
theorem yd_X8_best : yX8_best.cls = RX8 ∧ yX8_best.cls ≠ "java/lang/invoke/MethodHandle" ∧ yX8_best.cls ≠ "java/lang/invoke/VarHandle" ∧ (parseMethodDescriptor yX8_best.desc).map (fun d => d.parameters.length) = some 2 := by decide +kernel
set_option maxRecDepth 100000 in
set_option maxHeartbeats 4000000 in
theorem ctX8_best {l : Launch} {dC : Nat → ClassId} {dI : Nat → Nat → Nat} {cI : ClassId × ClassId} {cW : List zSh} {q : Nat → Nat} (hq : zI cW q) (hW : zIs cI cW) {a1 : Int32} {a2 : Int32} {S : zT} {o : Int32 × zT} (h : fX8_best a1 a2 S = some o) : zCi l dC dI cI cW q yX8_best (Cond.code yX8_best cX8_best 12 (some .int) :: zU) rmX8_best [.ref (q 101), .int a1, .int a2] S o := by
  refine zMet_i (lv := [(0, .ref (q 101)), (1, .int a1), (2, .int a2)]) (by decide) (Nat.le_of_ble_eq_true rfl) rfl ?_
  intro p e s m args below meth c Q hx hb hml hr hU hown hlocks hK hN hP hS ls hl hQ
  replace hown : s.vm.findClass RX8 = some m.cls := hown
  unfold fX8_best at h
  have L51 : ∀ (n51 : Nat) (x1 : Int32) (x2 : Int32) (x3 : Int32) (x4 : Int32) (x5 : Int32) (x6 : Int32) (x7 : Int64) (x9 : Int64) (x11 : Int32) (S : zT) (H : Heap) (locs : List Loc) (ls : Array Slot), va_P (dC, dI) vwCl (zWd cI cW q S) H → va_S (zA cW q) s.heap H locs → lv_has ls 12 [(0, .ref (q 101)), (1, .int x1), (2, .int x2), (3, .int x3), (4, .int x4), (5, .int x5), (6, .int x6), (7, .long x7), (9, .long x9), (11, .int x11)] → (zfix (fun _ _ _ _ _ _ _ _ _ _ => none) fX8_best_51 n51) x1 x2 x3 x4 x5 x6 x7 x9 x11 S = some o → W p l e rmX8_best s m args below meth c H locs 0 0 Q (F0 m 51 ls []) := by
    intro n51
    induction n51 with
    | zero => intro x1 x2 x3 x4 x5 x6 x7 x9 x11 S H locs ls hP hS hl h; exact zno (show (none : Option (Int32 × zT)) = some o from h)
    | succ n51 ih51 =>
      intro x1 x2 x3 x4 x5 x6 x7 x9 x11 S H locs ls hP hS hl h
      replace h : fX8_best_51 (zfix (fun _ _ _ _ _ _ _ _ _ _ => none) fX8_best_51 n51) x1 x2 x3 x4 x5 x6 x7 x9 x11 S = some o := h
      unfold fX8_best_51 at h
      have L128 : ∀ (x1 : Int32) (x2 : Int32) (x3 : Int32) (x4 : Int32) (x5 : Int32) (x6 : Int32) (x7 : Int64) (x9 : Int64) (x11 : Int32) (S : zT) (H : Heap) (locs : List Loc) (ls : Array Slot), va_P (dC, dI) vwCl (zWd cI cW q S) H → va_S (zA cW q) s.heap H locs → lv_has ls 12 [(0, .ref (q 101)), (1, .int x1), (2, .int x2), (3, .int x3), (4, .int x4), (5, .int x5), (6, .int x6), (7, .long x7), (9, .long x9), (11, .int x11)] → (fX8_best_128 (zfix (fun _ _ _ _ _ _ _ _ _ _ => none) fX8_best_51 n51)) x1 x2 x3 x4 x5 x6 x7 x9 x11 S = some o → W p l e rmX8_best s m args below meth c H locs 0 0 Q (F0 m 128 ls []) := by
        intro x1 x2 x3 x4 x5 x6 x7 x9 x11 S H locs ls hP hS hl h
        unfold fX8_best_128 at h
        refine lv_iinc (v := (x11 + 1)) (lv' := [(11, .int (x11 + 1)), (0, .ref (q 101)), (1, .int x1), (2, .int x2), (3, .int x3), (4, .int x4), (5, .int x5), (6, .int x6), (7, .long x7), (9, .long x9)]) hx hb dX8_best_128 hl (k := 9) rfl rfl (by decide) rfl (fun ls hl => ?_)
        refine lv_goto (tgt := 51) hx hb dX8_best_131 (by decide) ?_
        exact ih51 x1 x2 x3 x4 x5 x6 x7 x9 (x11 + 1) _ _ _ ls hP hS (lv_sub hl [1, 2, 3, 4, 5, 6, 7, 8, 9, 0] rfl) h
      have L122 : ∀ (x1 : Int32) (x2 : Int32) (x3 : Int32) (x4 : Int32) (x5 : Int32) (x6 : Int32) (x7 : Int64) (x9 : Int64) (x11 : Int32) (S : zT) (H : Heap) (locs : List Loc) (ls : Array Slot), va_P (dC, dI) vwCl (zWd cI cW q S) H → va_S (zA cW q) s.heap H locs → lv_has ls 12 [(0, .ref (q 101)), (1, .int x1), (2, .int x2), (3, .int x3), (4, .int x4), (5, .int x5), (6, .int x6), (7, .long x7), (9, .long x9), (11, .int x11)] → (fX8_best_122 (fX8_best_128 (zfix (fun _ _ _ _ _ _ _ _ _ _ => none) fX8_best_51 n51))) x1 x2 x3 x4 x5 x6 x7 x9 x11 S = some o → W p l e rmX8_best s m args below meth c H locs 0 0 Q (F0 m 122 ls []) := by
        intro x1 x2 x3 x4 x5 x6 x7 x9 x11 S H locs ls hP hS hl h
        unfold fX8_best_122 at h
        refine lv_iload hx hb dX8_best_122 (lv_at hl 4 rfl) ?_
        refine lv_iconst (v := 1) hx hb dX8_best_124 rfl ?_
        refine lv_iadd hx hb dX8_best_125 ?_
        refine lv_istore (lv' := [(4, .int (x4 + 1)), (0, .ref (q 101)), (1, .int x1), (2, .int x2), (3, .int x3), (5, .int x5), (6, .int x6), (7, .long x7), (9, .long x9), (11, .int x11)]) hx hb dX8_best_126 hl (by decide) rfl (fun ls hl => ?_)
        exact L128 x1 x2 x3 (x4 + 1) x5 x6 x7 x9 x11 _ _ _ ls hP hS (lv_sub hl [1, 2, 3, 4, 0, 5, 6, 7, 8, 9] rfl) h
      have L102 : ∀ (x1 : Int32) (x2 : Int32) (x3 : Int32) (x4 : Int32) (x11 : Int32) (S : zT) (H : Heap) (locs : List Loc) (ls : Array Slot), va_P (dC, dI) vwCl (zWd cI cW q S) H → va_S (zA cW q) s.heap H locs → lv_has ls 12 [(0, .ref (q 101)), (1, .int x1), (2, .int x2), (3, .int x3), (4, .int x4), (11, .int x11)] → (fX8_best_102 (fX8_best_122 (fX8_best_128 (zfix (fun _ _ _ _ _ _ _ _ _ _ => none) fX8_best_51 n51)))) x1 x2 x3 x4 x11 S = some o → W p l e rmX8_best s m args below meth c H locs 0 0 Q (F0 m 102 ls []) := by
        intro x1 x2 x3 x4 x11 S H locs ls hP hS hl h
        unfold fX8_best_102 at h
        refine lv_iload hx hb dX8_best_102 (lv_at hl 5 rfl) ?_
        refine lv_istore (lv' := [(5, .int x11), (0, .ref (q 101)), (1, .int x1), (2, .int x2), (3, .int x3), (4, .int x4), (11, .int x11)]) hx hb dX8_best_104 hl (by decide) rfl (fun ls hl => ?_)
        refine lv_iload hx hb dX8_best_106 (lv_at hl 5 rfl) ?_
        refine lv_istore (lv' := [(6, .int x4), (5, .int x11), (0, .ref (q 101)), (1, .int x1), (2, .int x2), (3, .int x3), (4, .int x4), (11, .int x11)]) hx hb dX8_best_108 hl (by decide) rfl (fun ls hl => ?_)
        refine lv_aload_n hx hb dX8_best_110 rfl (lv_at hl 2 rfl) ?_
        refine z_get hx hb hU uU_X8 hown hK hP (p_101 hW) rfl rfl 15 (by decide) (hU _ uF_X8_175) rfl dX8_best_111 ?_
        refine lv_lstore (lv' := [(7, .long (S.2 101 15)), (6, .int x4), (5, .int x11), (0, .ref (q 101)), (1, .int x1), (2, .int x2), (3, .int x3), (4, .int x4), (11, .int x11)]) hx hb dX8_best_114 hl (by decide) rfl (fun ls hl => ?_)
        refine lv_aload_n hx hb dX8_best_116 rfl (lv_at hl 3 rfl) ?_
        refine z_get hx hb hU uU_X8 hown hK hP (p_101 hW) rfl rfl 16 (by decide) (hU _ uF_X8_172) rfl dX8_best_117 ?_
        refine lv_lstore (lv' := [(9, .long (S.2 101 16)), (7, .long (S.2 101 15)), (6, .int x4), (5, .int x11), (0, .ref (q 101)), (1, .int x1), (2, .int x2), (3, .int x3), (4, .int x4), (11, .int x11)]) hx hb dX8_best_120 hl (by decide) rfl (fun ls hl => ?_)
        exact L122 x1 x2 x3 x4 x11 x4 (S.2 101 15) (S.2 101 16) x11 _ _ _ ls hP hS (lv_sub hl [4, 5, 6, 7, 8, 3, 2, 1, 0, 9] rfl) h
      refine lv_iload hx hb dX8_best_51 (lv_at hl 9 rfl) ?_
      refine lv_iload_n hx hb dX8_best_53 rfl (lv_at hl 3 rfl) ?_
      refine z_icmp_ge (tgt := 134) hx hb dX8_best_54 (by decide) h (fun h => ?_) (fun h => ?_)
      · refine lv_aload_n hx hb dX8_best_134 rfl (lv_at hl 0 rfl) ?_
        refine z_callV_v hx hb hml hown hU hK hN hP hS 0 (p_101 hW) rfl rfl (zU_V uL_X8_204 uI_X8_comeBack uS_X8_comeBack uN_X8 uC_X8_comeBack) yd_X8_comeBack ⟨rfl, rfl⟩ ⟨Nat.le_of_ble_eq_true rfl, Nat.le_of_ble_eq_true rfl⟩ (As := []) (fun o h9 => ctX8_comeBack hq hW h9) rfl hl.1 rfl (Nat.le_of_ble_eq_true rfl) dX8_best_135 ⟨Nat.zero_le _, Nat.zero_le _⟩ h (fun S_1 H locs hP hS h => ?_)
        refine lv_iload hx hb dX8_best_138 (lv_at hl 5 rfl) ?_
        refine lv_iconst (v := (-1)) hx hb dX8_best_140 rfl ?_
        refine z_icmp_ne (tgt := 146) hx hb dX8_best_141 (by decide) h (fun h => ?_) (fun h => ?_)
        · refine lv_aload_n hx hb dX8_best_146 rfl (lv_at hl 0 rfl) ?_
          refine z_callV_v hx hb hml hown hU hK hN hP hS 0 (p_101 hW) rfl rfl (zU_V uL_X8_52 uI_X8_keep uS_X8_keep uN_X8 uC_X8_keep) yd_X8_keep ⟨rfl, rfl⟩ ⟨Nat.le_of_ble_eq_true rfl, Nat.le_of_ble_eq_true rfl⟩ (As := []) (fun o h9 => ctX8_keep hq hW h9) rfl hl.1 rfl (Nat.le_of_ble_eq_true rfl) dX8_best_147 ⟨Nat.zero_le _, Nat.zero_le _⟩ h (fun S_2 H locs hP hS h => ?_)
          refine lv_aload_n hx hb dX8_best_150 rfl (lv_at hl 0 rfl) ?_
          refine lv_iload_n hx hb dX8_best_151 rfl (lv_at hl 1 rfl) ?_
          refine lv_iload hx hb dX8_best_152 (lv_at hl 5 rfl) ?_
          refine z_callV_v hx hb hml hown hU hK hN hP hS 2 (p_101 hW) rfl rfl (zU_V uL_X8_187 uI_X8_offsets uS_X8_offsets uN_X8 uC_X8_offsets) yd_X8_offsets ⟨rfl, rfl⟩ ⟨Nat.le_of_ble_eq_true rfl, Nat.le_of_ble_eq_true rfl⟩ (As := [.int x1, .int x5]) (fun o h9 => ctX8_offsets hq hW h9) rfl hl.1 rfl (Nat.le_of_ble_eq_true rfl) dX8_best_154 ⟨Nat.zero_le _, Nat.zero_le _⟩ h (fun S_3 H locs hP hS h => ?_)
          refine lv_aload_n hx hb dX8_best_157 rfl (lv_at hl 0 rfl) ?_
          refine lv_iload_n hx hb dX8_best_158 rfl (lv_at hl 1 rfl) ?_
          refine lv_iload_n hx hb dX8_best_159 rfl (lv_at hl 2 rfl) ?_
          refine z_callV_v hx hb hml hown hU hK hN hP hS 2 (p_101 hW) rfl rfl (zU_V uL_X8_184 uI_X8_laysRow uS_X8_laysRow uN_X8 uC_X8_laysRow) yd_X8_laysRow ⟨rfl, rfl⟩ ⟨Nat.le_of_ble_eq_true rfl, Nat.le_of_ble_eq_true rfl⟩ (As := [.int x1, .int x2]) (fun o h9 => ctX8_laysRow hq hW h9) rfl hl.1 rfl (Nat.le_of_ble_eq_true rfl) dX8_best_160 ⟨Nat.zero_le _, Nat.zero_le _⟩ h (fun S_4 H locs hP hS h => ?_)
          refine lv_iload hx hb dX8_best_163 (lv_at hl 6 rfl) ?_
          exact z_iret hx hb hlocks hP hS hQ hr dX8_best_165 h
        · refine lv_iconst (v := (-1)) hx hb dX8_best_144 rfl ?_
          exact z_iret hx hb hlocks hP hS hQ hr dX8_best_145 h
      · refine lv_aload_n hx hb dX8_best_57 rfl (lv_at hl 0 rfl) ?_
        refine lv_iload_n hx hb dX8_best_58 rfl (lv_at hl 1 rfl) ?_
        refine lv_iload_n hx hb dX8_best_59 rfl (lv_at hl 2 rfl) ?_
        refine lv_iload hx hb dX8_best_60 (lv_at hl 9 rfl) ?_
        refine z_callV_i hx hb hml hown hU hK hN hP hS 3 (p_101 hW) rfl rfl (zU_V uL_X8_194 uI_X8_tries uS_X8_tries uN_X8 uC_X8_tries) yd_X8_tries ⟨rfl, rfl⟩ ⟨Nat.le_of_ble_eq_true rfl, Nat.le_of_ble_eq_true rfl⟩ (As := [.int x1, .int x2, .int x11]) (fun o h9 => ctX8_tries hq hW h9) rfl hl.1 rfl (Nat.le_of_ble_eq_true rfl) dX8_best_62 ⟨Nat.zero_le _, Nat.zero_le _⟩ h (fun r_6 S_5 H locs hP hS h => ?_)
        refine z_if_ne (tgt := 71) hx hb dX8_best_65 (by decide) h (fun h => ?_) (fun h => ?_)
        · refine lv_aload_n hx hb dX8_best_71 rfl (lv_at hl 0 rfl) ?_
          refine z_callV_i hx hb hml hown hU hK hN hP hS 0 (p_101 hW) rfl rfl (zU_V uL_X8_178 uI_X8_worsts uS_X8_worsts uN_X8 uC_X8_worsts) yd_X8_worsts ⟨rfl, rfl⟩ ⟨Nat.le_of_ble_eq_true rfl, Nat.le_of_ble_eq_true rfl⟩ (As := []) (fun o h9 => ctX8_worsts hq hW h9) rfl hl.1 rfl (Nat.le_of_ble_eq_true rfl) dX8_best_72 ⟨Nat.zero_le _, Nat.zero_le _⟩ h (fun r_8 S_7 H locs hP hS h => ?_)
          refine z_if_eq (tgt := 122) hx hb dX8_best_75 (by decide) h (fun h => ?_) (fun h => ?_)
          · exact L122 x1 x2 x3 x4 x5 x6 x7 x9 x11 _ _ _ ls hP hS (lv_sub hl [0, 1, 2, 3, 4, 5, 6, 7, 8, 9] rfl) h
          · refine lv_iload hx hb dX8_best_78 (lv_at hl 5 rfl) ?_
            refine lv_iconst (v := (-1)) hx hb dX8_best_80 rfl ?_
            refine z_icmp_eq (tgt := 102) hx hb dX8_best_81 (by decide) h (fun h => ?_) (fun h => ?_)
            · exact L102 x1 x2 x3 x4 x11 _ _ _ ls hP hS (lv_sub hl [0, 1, 2, 3, 4, 9] rfl) h
            · refine lv_aload_n hx hb dX8_best_84 rfl (lv_at hl 0 rfl) ?_
              refine z_get hx hb hU uU_X8 hown hK hP (p_101 hW) rfl rfl 15 (by decide) (hU _ uF_X8_175) rfl dX8_best_85 ?_
              refine lv_lload hx hb dX8_best_88 (lv_at hl 8 rfl) ?_
              refine lv_lmul hx hb dX8_best_90 ?_
              refine lv_lload hx hb dX8_best_91 (lv_at hl 7 rfl) ?_
              refine lv_aload_n hx hb dX8_best_93 rfl (lv_at hl 0 rfl) ?_
              refine z_get hx hb hU uU_X8 hown hK hP (p_101 hW) rfl rfl 16 (by decide) (hU _ uF_X8_172) rfl dX8_best_94 ?_
              refine lv_lmul hx hb dX8_best_97 ?_
              refine W.lcmp hx hb dX8_best_98 ?_
              refine z_if_le (tgt := 122) hx hb dX8_best_99 (by decide) h (fun h => ?_) (fun h => ?_)
              · exact L122 x1 x2 x3 x4 x5 x6 x7 x9 x11 _ _ _ ls hP hS (lv_sub hl [0, 1, 2, 3, 4, 5, 6, 7, 8, 9] rfl) h
              · exact L102 x1 x2 x3 x4 x11 _ _ _ ls hP hS (lv_sub hl [0, 1, 2, 3, 4, 9] rfl) h
        · refine lv_goto (tgt := 128) hx hb dX8_best_68 (by decide) ?_
          exact L128 x1 x2 x3 x4 x5 x6 x7 x9 x11 _ _ _ ls hP hS (lv_sub hl [0, 1, 2, 3, 4, 5, 6, 7, 8, 9] rfl) h
  refine lv_aload_n hx hb dX8_best_0 rfl (lv_at hl 0 rfl) ?_
  refine lv_iconst (v := 0) hx hb dX8_best_1 rfl ?_
  refine z_puti hx hb hU uU_X8 tyX8 tyX8_ok nmX8 hown hq hK hP hS (p_101 hW) rfl rfl 0 (by decide) (hU _ uF_X8_34) rfl rfl rfl (Nat.le_of_ble_eq_true rfl) rfl dX8_best_2 h (fun S_9 H locs hP hS h => ?_)
  refine lv_aload_n hx hb dX8_best_5 rfl (lv_at hl 0 rfl) ?_
  refine z_callV_v hx hb hml hown hU hK hN hP hS 0 (p_101 hW) rfl rfl (zU_V uL_X8_49 uI_X8_begins uS_X8_begins uN_X8 uC_X8_begins) yd_X8_begins ⟨rfl, rfl⟩ ⟨Nat.le_of_ble_eq_true rfl, Nat.le_of_ble_eq_true rfl⟩ (As := []) (fun o h9 => ctX8_begins hq hW h9) rfl hl.1 rfl (Nat.le_of_ble_eq_true rfl) dX8_best_6 ⟨Nat.zero_le _, Nat.zero_le _⟩ h (fun S_10 H locs hP hS h => ?_)
  refine lv_aload_n hx hb dX8_best_9 rfl (lv_at hl 0 rfl) ?_
  refine lv_iload_n hx hb dX8_best_10 rfl (lv_at hl 1 rfl) ?_
  refine lv_iload_n hx hb dX8_best_11 rfl (lv_at hl 2 rfl) ?_
  refine lv_aload_n hx hb dX8_best_12 rfl (lv_at hl 0 rfl) ?_
  refine z_get hx hb hU uU_X8 hown hK hP (p_101 hW) rfl rfl 1 (by decide) (hU _ uF_X8_7) rfl dX8_best_13 ?_
  refine lv_iconst (v := 0) hx hb dX8_best_16 rfl ?_
  refine z_ialdC (j := 0) hx hb hK hP (pA_102 hW) dX8_best_17 rfl (by decide) ?_
  refine z_callV_i hx hb hml hown hU hK hN hP hS 3 (p_101 hW) rfl rfl (zU_V uL_X8_190 uI_X8_rows uS_X8_rows uN_X8 uC_X8_rows) yd_X8_rows ⟨rfl, rfl⟩ ⟨Nat.le_of_ble_eq_true rfl, Nat.le_of_ble_eq_true rfl⟩ (As := [.int a1, .int a2, .int (S_10.1 102 0)]) (fun o h9 => ctX8_rows hq hW h9) rfl hl.1 rfl (Nat.le_of_ble_eq_true rfl) dX8_best_18 ⟨Nat.zero_le _, Nat.zero_le _⟩ h (fun r_12 S_11 H locs hP hS h => ?_)
  refine lv_istore_n (lv' := [(3, .int r_12), (0, .ref (q 101)), (1, .int a1), (2, .int a2)]) hx hb dX8_best_21 rfl hl (by decide) rfl (fun ls hl => ?_)
  refine lv_iload_n hx hb dX8_best_22 rfl (lv_at hl 0 rfl) ?_
  refine lv_iconst (v := (-1)) hx hb dX8_best_23 rfl ?_
  refine z_icmp_ne (tgt := 29) hx hb dX8_best_24 (by decide) h (fun h => ?_) (fun h => ?_)
  · refine lv_aload_n hx hb dX8_best_29 rfl (lv_at hl 1 rfl) ?_
    refine z_callV_v hx hb hml hown hU hK hN hP hS 0 (p_101 hW) rfl rfl (zU_V uL_X8_198 uI_X8_goAside uS_X8_goAside uN_X8 uC_X8_goAside) yd_X8_goAside ⟨rfl, rfl⟩ ⟨Nat.le_of_ble_eq_true rfl, Nat.le_of_ble_eq_true rfl⟩ (As := []) (fun o h9 => ctX8_goAside hq hW h9) rfl hl.1 rfl (Nat.le_of_ble_eq_true rfl) dX8_best_30 ⟨Nat.zero_le _, Nat.zero_le _⟩ h (fun S_13 H locs hP hS h => ?_)
    refine lv_iconst (v := 0) hx hb dX8_best_33 rfl ?_
    refine lv_istore (lv' := [(4, .int 0), (3, .int r_12), (0, .ref (q 101)), (1, .int a1), (2, .int a2)]) hx hb dX8_best_34 hl (by decide) rfl (fun ls hl => ?_)
    refine lv_iconst (v := (-1)) hx hb dX8_best_36 rfl ?_
    refine lv_istore (lv' := [(5, .int (-1)), (4, .int 0), (3, .int r_12), (0, .ref (q 101)), (1, .int a1), (2, .int a2)]) hx hb dX8_best_37 hl (by decide) rfl (fun ls hl => ?_)
    refine lv_iconst (v := (-1)) hx hb dX8_best_39 rfl ?_
    refine lv_istore (lv' := [(6, .int (-1)), (5, .int (-1)), (4, .int 0), (3, .int r_12), (0, .ref (q 101)), (1, .int a1), (2, .int a2)]) hx hb dX8_best_40 hl (by decide) rfl (fun ls hl => ?_)
    refine lv_lconst (v := 0) hx hb dX8_best_42 rfl ?_
    refine lv_lstore (lv' := [(7, .long 0), (6, .int (-1)), (5, .int (-1)), (4, .int 0), (3, .int r_12), (0, .ref (q 101)), (1, .int a1), (2, .int a2)]) hx hb dX8_best_43 hl (by decide) rfl (fun ls hl => ?_)
    refine lv_lconst (v := 1) hx hb dX8_best_45 rfl ?_
    refine lv_lstore (lv' := [(9, .long 1), (7, .long 0), (6, .int (-1)), (5, .int (-1)), (4, .int 0), (3, .int r_12), (0, .ref (q 101)), (1, .int a1), (2, .int a2)]) hx hb dX8_best_46 hl (by decide) rfl (fun ls hl => ?_)
    refine lv_iconst (v := 0) hx hb dX8_best_48 rfl ?_
    refine lv_istore (lv' := [(11, .int 0), (9, .long 1), (7, .long 0), (6, .int (-1)), (5, .int (-1)), (4, .int 0), (3, .int r_12), (0, .ref (q 101)), (1, .int a1), (2, .int a2)]) hx hb dX8_best_49 hl (by decide) rfl (fun ls hl => ?_)
    exact L51 zF a1 a2 r_12 0 (-1) (-1) 0 1 0 _ _ _ ls hP hS (lv_sub hl [7, 8, 9, 6, 5, 4, 3, 2, 1, 0] rfl) h
  · refine lv_iconst (v := (-1)) hx hb dX8_best_27 rfl ?_
    exact z_iret hx hb hlocks hP hS hQ hr dX8_best_28 h

def fX8_without_64 (rec : Int32 → Int32 → Int32 → zT → Option (Int32 × zT)) (x2 : Int32) (x3 : Int32) (x4 : Int32) (S : zT) : Option (Int32 × zT) :=
  (if (S.1 102 0) ≤ (x4 + 1) then zlet (zsi S 102 0 ((S.1 102 0) - 1)) fun S_1 =>
  zbi (fX8_manyOf x2 x3 S_1) fun r_3 S_2 =>
  zbv (fX8_comeBack S_2) fun S_4 =>
  some (r_3, S_4) else if ¬ (((7 + x4) + 1) < 0 ∨ 48 ≤ ((7 + x4) + 1).toNatClampNeg) then if ¬ ((7 + x4) < 0 ∨ 48 ≤ (7 + x4).toNatClampNeg) then zlet (zsi S 102 (7 + x4).toNatClampNeg (S.1 102 ((7 + x4) + 1).toNatClampNeg)) (fun S_5 =>
  if ¬ (((15 + x4) + 1) < 0 ∨ 48 ≤ ((15 + x4) + 1).toNatClampNeg) then if ¬ ((15 + x4) < 0 ∨ 48 ≤ (15 + x4).toNatClampNeg) then zlet (zsi S_5 102 (15 + x4).toNatClampNeg (S_5.1 102 ((15 + x4) + 1).toNatClampNeg)) (fun S_6 =>
  rec x2 x3 (x4 + 1) S_6) else none else none) else none else none)
def fX8_without (a1 : Int32) (a2 : Int32) (a3 : Int32) (S : zT) : Option (Int32 × zT) :=
  zlet (zsi S 101 0 0) fun S_7 =>
  zbv (fX8_begins S_7) fun S_8 =>
  zbi (fX8_isLeg a1 S_8) fun r_10 S_9 =>
  (if r_10 = 0 then some ((-1), S_9) else (if (S_9.1 102 0) < 3 then some ((-1), S_9) else (if (S_9.1 102 1) = 2 then some ((-1), S_9) else zbi (fX8_rows a2 a3 ((S_9.1 102 0) - 1) S_9) fun r_12 S_11 =>
  (if r_12 = (-1) then some ((-1), S_11) else zbv (fX8_goAside S_11) fun S_13 =>
  (zfix (fun _ _ _ _ => none) fX8_without_64 zF) a2 a3 a1 S_13))))
abbrev rmX8_without : Room := { frames := 9, cells := 0, slots := 0, locals := 205 }
theorem yd_X8_without : yX8_without.cls = RX8 ∧ yX8_without.cls ≠ "java/lang/invoke/MethodHandle" ∧ yX8_without.cls ≠ "java/lang/invoke/VarHandle" ∧ (parseMethodDescriptor yX8_without.desc).map (fun d => d.parameters.length) = some 3 := by decide +kernel
set_option maxRecDepth 100000 in
set_option maxHeartbeats 4000000 in
theorem ctX8_without {l : Launch} {dC : Nat → ClassId} {dI : Nat → Nat → Nat} {cI : ClassId × ClassId} {cW : List zSh} {q : Nat → Nat} (hq : zI cW q) (hW : zIs cI cW) {a1 : Int32} {a2 : Int32} {a3 : Int32} {S : zT} {o : Int32 × zT} (h : fX8_without a1 a2 a3 S = some o) : zCi l dC dI cI cW q yX8_without (Cond.code yX8_without cX8_without 5 (some .int) :: zU) rmX8_without [.ref (q 101), .int a1, .int a2, .int a3] S o := by
  refine zMet_i (lv := [(0, .ref (q 101)), (1, .int a1), (2, .int a2), (3, .int a3)]) (by decide) (Nat.le_of_ble_eq_true rfl) rfl ?_
  intro p e s m args below meth c Q hx hb hml hr hU hown hlocks hK hN hP hS ls hl hQ
  replace hown : s.vm.findClass RX8 = some m.cls := hown
  unfold fX8_without at h
  have L64 : ∀ (n64 : Nat) (x2 : Int32) (x3 : Int32) (x4 : Int32) (S : zT) (H : Heap) (locs : List Loc) (ls : Array Slot), va_P (dC, dI) vwCl (zWd cI cW q S) H → va_S (zA cW q) s.heap H locs → lv_has ls 5 [(0, .ref (q 101)), (2, .int x2), (3, .int x3), (4, .int x4)] → (zfix (fun _ _ _ _ => none) fX8_without_64 n64) x2 x3 x4 S = some o → W p l e rmX8_without s m args below meth c H locs 0 0 Q (F0 m 64 ls []) := by
    intro n64
    induction n64 with
    | zero => intro x2 x3 x4 S H locs ls hP hS hl h; exact zno (show (none : Option (Int32 × zT)) = some o from h)
    | succ n64 ih64 =>
      intro x2 x3 x4 S H locs ls hP hS hl h
      replace h : fX8_without_64 (zfix (fun _ _ _ _ => none) fX8_without_64 n64) x2 x3 x4 S = some o := h
      unfold fX8_without_64 at h
      refine lv_iload hx hb dX8_without_64 (lv_at hl 3 rfl) ?_
      refine lv_iconst (v := 1) hx hb dX8_without_66 rfl ?_
      refine lv_iadd hx hb dX8_without_67 ?_
      refine lv_aload_n hx hb dX8_without_68 rfl (lv_at hl 0 rfl) ?_
      refine z_get hx hb hU uU_X8 hown hK hP (p_101 hW) rfl rfl 1 (by decide) (hU _ uF_X8_7) rfl dX8_without_69 ?_
      refine lv_iconst (v := 0) hx hb dX8_without_72 rfl ?_
      refine z_ialdC (j := 0) hx hb hK hP (pA_102 hW) dX8_without_73 rfl (by decide) ?_
      refine z_icmp_ge (tgt := 127) hx hb dX8_without_74 (by decide) h (fun h => ?_) (fun h => ?_)
      · refine lv_aload_n hx hb dX8_without_127 rfl (lv_at hl 0 rfl) ?_
        refine z_get hx hb hU uU_X8 hown hK hP (p_101 hW) rfl rfl 1 (by decide) (hU _ uF_X8_7) rfl dX8_without_128 ?_
        refine lv_iconst (v := 0) hx hb dX8_without_131 rfl ?_
        refine lv_aload_n hx hb dX8_without_132 rfl (lv_at hl 0 rfl) ?_
        refine z_get hx hb hU uU_X8 hown hK hP (p_101 hW) rfl rfl 1 (by decide) (hU _ uF_X8_7) rfl dX8_without_133 ?_
        refine lv_iconst (v := 0) hx hb dX8_without_136 rfl ?_
        refine z_ialdC (j := 0) hx hb hK hP (pA_102 hW) dX8_without_137 rfl (by decide) ?_
        refine lv_iconst (v := 1) hx hb dX8_without_138 rfl ?_
        refine lv_isub hx hb dX8_without_139 ?_
        refine z_iastC (j := 0) hx hb hq hK hP hS (pA_102 hW) dX8_without_140 rfl (by decide) h (fun S_1 H locs hP hS h => ?_)
        refine lv_aload_n hx hb dX8_without_141 rfl (lv_at hl 0 rfl) ?_
        refine lv_iload_n hx hb dX8_without_142 rfl (lv_at hl 1 rfl) ?_
        refine lv_iload_n hx hb dX8_without_143 rfl (lv_at hl 2 rfl) ?_
        refine z_callV_i hx hb hml hown hU hK hN hP hS 2 (p_101 hW) rfl rfl (zU_V uL_X8_201 uI_X8_manyOf uS_X8_manyOf uN_X8 uC_X8_manyOf) yd_X8_manyOf ⟨rfl, rfl⟩ ⟨Nat.le_of_ble_eq_true rfl, Nat.le_of_ble_eq_true rfl⟩ (As := [.int x2, .int x3]) (fun o h9 => ctX8_manyOf hq hW h9) rfl hl.1 rfl (Nat.le_of_ble_eq_true rfl) dX8_without_144 ⟨Nat.zero_le _, Nat.zero_le _⟩ h (fun r_3 S_2 H locs hP hS h => ?_)
        refine lv_istore (lv' := [(4, .int r_3), (0, .ref (q 101)), (2, .int x2), (3, .int x3)]) hx hb dX8_without_147 hl (by decide) rfl (fun ls hl => ?_)
        refine lv_aload_n hx hb dX8_without_149 rfl (lv_at hl 1 rfl) ?_
        refine z_callV_v hx hb hml hown hU hK hN hP hS 0 (p_101 hW) rfl rfl (zU_V uL_X8_204 uI_X8_comeBack uS_X8_comeBack uN_X8 uC_X8_comeBack) yd_X8_comeBack ⟨rfl, rfl⟩ ⟨Nat.le_of_ble_eq_true rfl, Nat.le_of_ble_eq_true rfl⟩ (As := []) (fun o h9 => ctX8_comeBack hq hW h9) rfl hl.1 rfl (Nat.le_of_ble_eq_true rfl) dX8_without_150 ⟨Nat.zero_le _, Nat.zero_le _⟩ h (fun S_4 H locs hP hS h => ?_)
        refine lv_iload hx hb dX8_without_153 (lv_at hl 0 rfl) ?_
        exact z_iret hx hb hlocks hP hS hQ hr dX8_without_155 h
      · refine lv_aload_n hx hb dX8_without_77 rfl (lv_at hl 0 rfl) ?_
        refine z_get hx hb hU uU_X8 hown hK hP (p_101 hW) rfl rfl 1 (by decide) (hU _ uF_X8_7) rfl dX8_without_78 ?_
        refine lv_bipush (v := 7) hx hb dX8_without_81 rfl ?_
        refine lv_iload hx hb dX8_without_83 (lv_at hl 3 rfl) ?_
        refine lv_iadd hx hb dX8_without_85 ?_
        refine lv_aload_n hx hb dX8_without_86 rfl (lv_at hl 0 rfl) ?_
        refine z_get hx hb hU uU_X8 hown hK hP (p_101 hW) rfl rfl 1 (by decide) (hU _ uF_X8_7) rfl dX8_without_87 ?_
        refine lv_bipush (v := 7) hx hb dX8_without_90 rfl ?_
        refine lv_iload hx hb dX8_without_92 (lv_at hl 3 rfl) ?_
        refine lv_iadd hx hb dX8_without_94 ?_
        refine lv_iconst (v := 1) hx hb dX8_without_95 rfl ?_
        refine lv_iadd hx hb dX8_without_96 ?_
        refine z_iald hx hb hK hP (pA_102 hW) dX8_without_97 h (fun h => ?_)
        refine z_iast hx hb hq hK hP hS (pA_102 hW) dX8_without_98 h (fun S_5 H locs hP hS h => ?_)
        refine lv_aload_n hx hb dX8_without_99 rfl (lv_at hl 0 rfl) ?_
        refine z_get hx hb hU uU_X8 hown hK hP (p_101 hW) rfl rfl 1 (by decide) (hU _ uF_X8_7) rfl dX8_without_100 ?_
        refine lv_bipush (v := 15) hx hb dX8_without_103 rfl ?_
        refine lv_iload hx hb dX8_without_105 (lv_at hl 3 rfl) ?_
        refine lv_iadd hx hb dX8_without_107 ?_
        refine lv_aload_n hx hb dX8_without_108 rfl (lv_at hl 0 rfl) ?_
        refine z_get hx hb hU uU_X8 hown hK hP (p_101 hW) rfl rfl 1 (by decide) (hU _ uF_X8_7) rfl dX8_without_109 ?_
        refine lv_bipush (v := 15) hx hb dX8_without_112 rfl ?_
        refine lv_iload hx hb dX8_without_114 (lv_at hl 3 rfl) ?_
        refine lv_iadd hx hb dX8_without_116 ?_
        refine lv_iconst (v := 1) hx hb dX8_without_117 rfl ?_
        refine lv_iadd hx hb dX8_without_118 ?_
        refine z_iald hx hb hK hP (pA_102 hW) dX8_without_119 h (fun h => ?_)
        refine z_iast hx hb hq hK hP hS (pA_102 hW) dX8_without_120 h (fun S_6 H locs hP hS h => ?_)
        refine lv_iinc (v := (x4 + 1)) (lv' := [(4, .int (x4 + 1)), (0, .ref (q 101)), (2, .int x2), (3, .int x3)]) hx hb dX8_without_121 hl (k := 3) rfl rfl (by decide) rfl (fun ls hl => ?_)
        refine lv_goto (tgt := 64) hx hb dX8_without_124 (by decide) ?_
        exact ih64 x2 x3 (x4 + 1) _ _ _ ls hP hS (lv_sub hl [1, 2, 3, 0] rfl) h
  refine lv_aload_n hx hb dX8_without_0 rfl (lv_at hl 0 rfl) ?_
  refine lv_iconst (v := 0) hx hb dX8_without_1 rfl ?_
  refine z_puti hx hb hU uU_X8 tyX8 tyX8_ok nmX8 hown hq hK hP hS (p_101 hW) rfl rfl 0 (by decide) (hU _ uF_X8_34) rfl rfl rfl (Nat.le_of_ble_eq_true rfl) rfl dX8_without_2 h (fun S_7 H locs hP hS h => ?_)
  refine lv_aload_n hx hb dX8_without_5 rfl (lv_at hl 0 rfl) ?_
  refine z_callV_v hx hb hml hown hU hK hN hP hS 0 (p_101 hW) rfl rfl (zU_V uL_X8_49 uI_X8_begins uS_X8_begins uN_X8 uC_X8_begins) yd_X8_begins ⟨rfl, rfl⟩ ⟨Nat.le_of_ble_eq_true rfl, Nat.le_of_ble_eq_true rfl⟩ (As := []) (fun o h9 => ctX8_begins hq hW h9) rfl hl.1 rfl (Nat.le_of_ble_eq_true rfl) dX8_without_6 ⟨Nat.zero_le _, Nat.zero_le _⟩ h (fun S_8 H locs hP hS h => ?_)
  refine lv_aload_n hx hb dX8_without_9 rfl (lv_at hl 0 rfl) ?_
  refine lv_iload_n hx hb dX8_without_10 rfl (lv_at hl 1 rfl) ?_
  refine z_callV_i hx hb hml hown hU hK hN hP hS 1 (p_101 hW) rfl rfl (zU_V uL_X8_55 uI_X8_isLeg uS_X8_isLeg uN_X8 uC_X8_isLeg) yd_X8_isLeg ⟨rfl, rfl⟩ ⟨Nat.le_of_ble_eq_true rfl, Nat.le_of_ble_eq_true rfl⟩ (As := [.int a1]) (fun o h9 => ctX8_isLeg hq hW h9) rfl hl.1 rfl (Nat.le_of_ble_eq_true rfl) dX8_without_11 ⟨Nat.zero_le _, Nat.zero_le _⟩ h (fun r_10 S_9 H locs hP hS h => ?_)
  refine z_if_eq (tgt := 55) hx hb dX8_without_14 (by decide) h (fun h => ?_) (fun h => ?_)
  · refine lv_iconst (v := (-1)) hx hb dX8_without_55 rfl ?_
    exact z_iret hx hb hlocks hP hS hQ hr dX8_without_56 h
  · refine lv_aload_n hx hb dX8_without_17 rfl (lv_at hl 0 rfl) ?_
    refine z_get hx hb hU uU_X8 hown hK hP (p_101 hW) rfl rfl 1 (by decide) (hU _ uF_X8_7) rfl dX8_without_18 ?_
    refine lv_iconst (v := 0) hx hb dX8_without_21 rfl ?_
    refine z_ialdC (j := 0) hx hb hK hP (pA_102 hW) dX8_without_22 rfl (by decide) ?_
    refine lv_iconst (v := 3) hx hb dX8_without_23 rfl ?_
    refine z_icmp_lt (tgt := 55) hx hb dX8_without_24 (by decide) h (fun h => ?_) (fun h => ?_)
    · refine lv_iconst (v := (-1)) hx hb dX8_without_55 rfl ?_
      exact z_iret hx hb hlocks hP hS hQ hr dX8_without_56 h
    · refine lv_aload_n hx hb dX8_without_27 rfl (lv_at hl 0 rfl) ?_
      refine z_get hx hb hU uU_X8 hown hK hP (p_101 hW) rfl rfl 1 (by decide) (hU _ uF_X8_7) rfl dX8_without_28 ?_
      refine lv_iconst (v := 1) hx hb dX8_without_31 rfl ?_
      refine z_ialdC (j := 1) hx hb hK hP (pA_102 hW) dX8_without_32 rfl (by decide) ?_
      refine lv_iconst (v := 2) hx hb dX8_without_33 rfl ?_
      refine z_icmp_eq (tgt := 55) hx hb dX8_without_34 (by decide) h (fun h => ?_) (fun h => ?_)
      · refine lv_iconst (v := (-1)) hx hb dX8_without_55 rfl ?_
        exact z_iret hx hb hlocks hP hS hQ hr dX8_without_56 h
      · refine lv_aload_n hx hb dX8_without_37 rfl (lv_at hl 0 rfl) ?_
        refine lv_iload_n hx hb dX8_without_38 rfl (lv_at hl 2 rfl) ?_
        refine lv_iload_n hx hb dX8_without_39 rfl (lv_at hl 3 rfl) ?_
        refine lv_aload_n hx hb dX8_without_40 rfl (lv_at hl 0 rfl) ?_
        refine z_get hx hb hU uU_X8 hown hK hP (p_101 hW) rfl rfl 1 (by decide) (hU _ uF_X8_7) rfl dX8_without_41 ?_
        refine lv_iconst (v := 0) hx hb dX8_without_44 rfl ?_
        refine z_ialdC (j := 0) hx hb hK hP (pA_102 hW) dX8_without_45 rfl (by decide) ?_
        refine lv_iconst (v := 1) hx hb dX8_without_46 rfl ?_
        refine lv_isub hx hb dX8_without_47 ?_
        refine z_callV_i hx hb hml hown hU hK hN hP hS 3 (p_101 hW) rfl rfl (zU_V uL_X8_190 uI_X8_rows uS_X8_rows uN_X8 uC_X8_rows) yd_X8_rows ⟨rfl, rfl⟩ ⟨Nat.le_of_ble_eq_true rfl, Nat.le_of_ble_eq_true rfl⟩ (As := [.int a2, .int a3, .int ((S_9.1 102 0) - 1)]) (fun o h9 => ctX8_rows hq hW h9) rfl hl.1 rfl (Nat.le_of_ble_eq_true rfl) dX8_without_48 ⟨Nat.zero_le _, Nat.zero_le _⟩ h (fun r_12 S_11 H locs hP hS h => ?_)
        refine lv_iconst (v := (-1)) hx hb dX8_without_51 rfl ?_
        refine z_icmp_ne (tgt := 57) hx hb dX8_without_52 (by decide) h (fun h => ?_) (fun h => ?_)
        · refine lv_aload_n hx hb dX8_without_57 rfl (lv_at hl 0 rfl) ?_
          refine z_callV_v hx hb hml hown hU hK hN hP hS 0 (p_101 hW) rfl rfl (zU_V uL_X8_198 uI_X8_goAside uS_X8_goAside uN_X8 uC_X8_goAside) yd_X8_goAside ⟨rfl, rfl⟩ ⟨Nat.le_of_ble_eq_true rfl, Nat.le_of_ble_eq_true rfl⟩ (As := []) (fun o h9 => ctX8_goAside hq hW h9) rfl hl.1 rfl (Nat.le_of_ble_eq_true rfl) dX8_without_58 ⟨Nat.zero_le _, Nat.zero_le _⟩ h (fun S_13 H locs hP hS h => ?_)
          refine lv_iload_n hx hb dX8_without_61 rfl (lv_at hl 1 rfl) ?_
          refine lv_istore (lv' := [(4, .int a1), (0, .ref (q 101)), (1, .int a1), (2, .int a2), (3, .int a3)]) hx hb dX8_without_62 hl (by decide) rfl (fun ls hl => ?_)
          exact L64 zF a2 a3 a1 _ _ _ ls hP hS (lv_sub hl [1, 3, 4, 0] rfl) h
        · refine lv_iconst (v := (-1)) hx hb dX8_without_55 rfl ?_
          exact z_iret hx hb hlocks hP hS hQ hr dX8_without_56 h

def fX8_loads_64 (k39 : Int32 → Int32 → zT → Option (Int32 × zT)) (x2 : Int32) (x3 : Int32) (S : zT) : Option (Int32 × zT) :=
  k39 x2 (x3 + 1) S
def fX8_loads_39 (rec : Int32 → Int32 → zT → Option (Int32 × zT)) (x2 : Int32) (x3 : Int32) (S : zT) : Option (Int32 × zT) :=
  (if 20 < x3 then zbv (fX8_comeBack S) fun S_1 =>
  some (x2, S_1) else zlet (zsi S 102 4 x3) fun S_2 =>
  zbi (fX8_whyNot S_2) fun r_4 S_3 =>
  (if r_4 = (-1) then (fX8_loads_64 rec) (x2 + 1) x3 S_3 else (fX8_loads_64 rec) x2 x3 S_3))
def fX8_loads (a1 : Int32) (S : zT) : Option (Int32 × zT) :=
  zlet (zsi S 101 0 0) fun S_5 =>
  zbv (fX8_begins S_5) fun S_6 =>
  (if a1 < (-20) then some ((-1), S_6) else (if a1 ≤ 20 then zbv (fX8_goAside S_6) fun S_7 =>
  zlet (zsi S_7 102 5 a1) fun S_8 =>
  (zfix (fun _ _ _ => none) fX8_loads_39 zF) 0 (-20) S_8 else some ((-1), S_6)))
abbrev rmX8_loads : Room := { frames := 7, cells := 0, slots := 0, locals := 157 }
theorem yd_X8_loads : yX8_loads.cls = RX8 ∧ yX8_loads.cls ≠ "java/lang/invoke/MethodHandle" ∧ yX8_loads.cls ≠ "java/lang/invoke/VarHandle" ∧ (parseMethodDescriptor yX8_loads.desc).map (fun d => d.parameters.length) = some 1 := by decide +kernel
set_option maxRecDepth 100000 in
set_option maxHeartbeats 4000000 in
theorem ctX8_loads {l : Launch} {dC : Nat → ClassId} {dI : Nat → Nat → Nat} {cI : ClassId × ClassId} {cW : List zSh} {q : Nat → Nat} (hq : zI cW q) (hW : zIs cI cW) {a1 : Int32} {S : zT} {o : Int32 × zT} (h : fX8_loads a1 S = some o) : zCi l dC dI cI cW q yX8_loads (Cond.code yX8_loads cX8_loads 4 (some .int) :: zU) rmX8_loads [.ref (q 101), .int a1] S o := by
  refine zMet_i (lv := [(0, .ref (q 101)), (1, .int a1)]) (by decide) (Nat.le_of_ble_eq_true rfl) rfl ?_
  intro p e s m args below meth c Q hx hb hml hr hU hown hlocks hK hN hP hS ls hl hQ
  replace hown : s.vm.findClass RX8 = some m.cls := hown
  unfold fX8_loads at h
  have L39 : ∀ (n39 : Nat) (x2 : Int32) (x3 : Int32) (S : zT) (H : Heap) (locs : List Loc) (ls : Array Slot), va_P (dC, dI) vwCl (zWd cI cW q S) H → va_S (zA cW q) s.heap H locs → lv_has ls 4 [(0, .ref (q 101)), (2, .int x2), (3, .int x3)] → (zfix (fun _ _ _ => none) fX8_loads_39 n39) x2 x3 S = some o → W p l e rmX8_loads s m args below meth c H locs 0 0 Q (F0 m 39 ls []) := by
    intro n39
    induction n39 with
    | zero => intro x2 x3 S H locs ls hP hS hl h; exact zno (show (none : Option (Int32 × zT)) = some o from h)
    | succ n39 ih39 =>
      intro x2 x3 S H locs ls hP hS hl h
      replace h : fX8_loads_39 (zfix (fun _ _ _ => none) fX8_loads_39 n39) x2 x3 S = some o := h
      unfold fX8_loads_39 at h
      have L64 : ∀ (x2 : Int32) (x3 : Int32) (S : zT) (H : Heap) (locs : List Loc) (ls : Array Slot), va_P (dC, dI) vwCl (zWd cI cW q S) H → va_S (zA cW q) s.heap H locs → lv_has ls 4 [(0, .ref (q 101)), (2, .int x2), (3, .int x3)] → (fX8_loads_64 (zfix (fun _ _ _ => none) fX8_loads_39 n39)) x2 x3 S = some o → W p l e rmX8_loads s m args below meth c H locs 0 0 Q (F0 m 64 ls []) := by
        intro x2 x3 S H locs ls hP hS hl h
        unfold fX8_loads_64 at h
        refine lv_iinc (v := (x3 + 1)) (lv' := [(3, .int (x3 + 1)), (0, .ref (q 101)), (2, .int x2)]) hx hb dX8_loads_64 hl (k := 2) rfl rfl (by decide) rfl (fun ls hl => ?_)
        refine lv_goto (tgt := 39) hx hb dX8_loads_67 (by decide) ?_
        exact ih39 x2 (x3 + 1) _ _ _ ls hP hS (lv_sub hl [1, 2, 0] rfl) h
      refine lv_iload_n hx hb dX8_loads_39 rfl (lv_at hl 2 rfl) ?_
      refine lv_bipush (v := 20) hx hb dX8_loads_40 rfl ?_
      refine z_icmp_gt (tgt := 70) hx hb dX8_loads_42 (by decide) h (fun h => ?_) (fun h => ?_)
      · refine lv_aload_n hx hb dX8_loads_70 rfl (lv_at hl 0 rfl) ?_
        refine z_callV_v hx hb hml hown hU hK hN hP hS 0 (p_101 hW) rfl rfl (zU_V uL_X8_204 uI_X8_comeBack uS_X8_comeBack uN_X8 uC_X8_comeBack) yd_X8_comeBack ⟨rfl, rfl⟩ ⟨Nat.le_of_ble_eq_true rfl, Nat.le_of_ble_eq_true rfl⟩ (As := []) (fun o h9 => ctX8_comeBack hq hW h9) rfl hl.1 rfl (Nat.le_of_ble_eq_true rfl) dX8_loads_71 ⟨Nat.zero_le _, Nat.zero_le _⟩ h (fun S_1 H locs hP hS h => ?_)
        refine lv_iload_n hx hb dX8_loads_74 rfl (lv_at hl 1 rfl) ?_
        exact z_iret hx hb hlocks hP hS hQ hr dX8_loads_75 h
      · refine lv_aload_n hx hb dX8_loads_45 rfl (lv_at hl 0 rfl) ?_
        refine z_get hx hb hU uU_X8 hown hK hP (p_101 hW) rfl rfl 1 (by decide) (hU _ uF_X8_7) rfl dX8_loads_46 ?_
        refine lv_iconst (v := 4) hx hb dX8_loads_49 rfl ?_
        refine lv_iload_n hx hb dX8_loads_50 rfl (lv_at hl 2 rfl) ?_
        refine z_iastC (j := 4) hx hb hq hK hP hS (pA_102 hW) dX8_loads_51 rfl (by decide) h (fun S_2 H locs hP hS h => ?_)
        refine lv_aload_n hx hb dX8_loads_52 rfl (lv_at hl 0 rfl) ?_
        refine z_callV_i hx hb hml hown hU hK hN hP hS 0 (p_101 hW) rfl rfl (zU_V uL_X8_143 uI_X8_whyNot uS_X8_whyNot uN_X8 uC_X8_whyNot) yd_X8_whyNot ⟨rfl, rfl⟩ ⟨Nat.le_of_ble_eq_true rfl, Nat.le_of_ble_eq_true rfl⟩ (As := []) (fun o h9 => ctX8_whyNot hq hW h9) rfl hl.1 rfl (Nat.le_of_ble_eq_true rfl) dX8_loads_53 ⟨Nat.zero_le _, Nat.zero_le _⟩ h (fun r_4 S_3 H locs hP hS h => ?_)
        refine lv_iconst (v := (-1)) hx hb dX8_loads_56 rfl ?_
        refine z_icmp_ne (tgt := 64) hx hb dX8_loads_57 (by decide) h (fun h => ?_) (fun h => ?_)
        · exact L64 x2 x3 _ _ _ ls hP hS (lv_sub hl [0, 1, 2] rfl) h
        · refine lv_iload_n hx hb dX8_loads_60 rfl (lv_at hl 1 rfl) ?_
          refine lv_iconst (v := 1) hx hb dX8_loads_61 rfl ?_
          refine lv_iadd hx hb dX8_loads_62 ?_
          refine lv_istore_n (lv' := [(2, .int (x2 + 1)), (0, .ref (q 101)), (3, .int x3)]) hx hb dX8_loads_63 rfl hl (by decide) rfl (fun ls hl => ?_)
          exact L64 (x2 + 1) x3 _ _ _ ls hP hS (lv_sub hl [1, 0, 2] rfl) h
  refine lv_aload_n hx hb dX8_loads_0 rfl (lv_at hl 0 rfl) ?_
  refine lv_iconst (v := 0) hx hb dX8_loads_1 rfl ?_
  refine z_puti hx hb hU uU_X8 tyX8 tyX8_ok nmX8 hown hq hK hP hS (p_101 hW) rfl rfl 0 (by decide) (hU _ uF_X8_34) rfl rfl rfl (Nat.le_of_ble_eq_true rfl) rfl dX8_loads_2 h (fun S_5 H locs hP hS h => ?_)
  refine lv_aload_n hx hb dX8_loads_5 rfl (lv_at hl 0 rfl) ?_
  refine z_callV_v hx hb hml hown hU hK hN hP hS 0 (p_101 hW) rfl rfl (zU_V uL_X8_49 uI_X8_begins uS_X8_begins uN_X8 uC_X8_begins) yd_X8_begins ⟨rfl, rfl⟩ ⟨Nat.le_of_ble_eq_true rfl, Nat.le_of_ble_eq_true rfl⟩ (As := []) (fun o h9 => ctX8_begins hq hW h9) rfl hl.1 rfl (Nat.le_of_ble_eq_true rfl) dX8_loads_6 ⟨Nat.zero_le _, Nat.zero_le _⟩ h (fun S_6 H locs hP hS h => ?_)
  refine lv_iload_n hx hb dX8_loads_9 rfl (lv_at hl 1 rfl) ?_
  refine lv_bipush (v := (-20)) hx hb dX8_loads_10 rfl ?_
  refine z_icmp_lt (tgt := 21) hx hb dX8_loads_12 (by decide) h (fun h => ?_) (fun h => ?_)
  · refine lv_iconst (v := (-1)) hx hb dX8_loads_21 rfl ?_
    exact z_iret hx hb hlocks hP hS hQ hr dX8_loads_22 h
  · refine lv_iload_n hx hb dX8_loads_15 rfl (lv_at hl 1 rfl) ?_
    refine lv_bipush (v := 20) hx hb dX8_loads_16 rfl ?_
    refine z_icmp_le (tgt := 23) hx hb dX8_loads_18 (by decide) h (fun h => ?_) (fun h => ?_)
    · refine lv_aload_n hx hb dX8_loads_23 rfl (lv_at hl 0 rfl) ?_
      refine z_callV_v hx hb hml hown hU hK hN hP hS 0 (p_101 hW) rfl rfl (zU_V uL_X8_198 uI_X8_goAside uS_X8_goAside uN_X8 uC_X8_goAside) yd_X8_goAside ⟨rfl, rfl⟩ ⟨Nat.le_of_ble_eq_true rfl, Nat.le_of_ble_eq_true rfl⟩ (As := []) (fun o h9 => ctX8_goAside hq hW h9) rfl hl.1 rfl (Nat.le_of_ble_eq_true rfl) dX8_loads_24 ⟨Nat.zero_le _, Nat.zero_le _⟩ h (fun S_7 H locs hP hS h => ?_)
      refine lv_iconst (v := 0) hx hb dX8_loads_27 rfl ?_
      refine lv_istore_n (lv' := [(2, .int 0), (0, .ref (q 101)), (1, .int a1)]) hx hb dX8_loads_28 rfl hl (by decide) rfl (fun ls hl => ?_)
      refine lv_aload_n hx hb dX8_loads_29 rfl (lv_at hl 1 rfl) ?_
      refine z_get hx hb hU uU_X8 hown hK hP (p_101 hW) rfl rfl 1 (by decide) (hU _ uF_X8_7) rfl dX8_loads_30 ?_
      refine lv_iconst (v := 5) hx hb dX8_loads_33 rfl ?_
      refine lv_iload_n hx hb dX8_loads_34 rfl (lv_at hl 2 rfl) ?_
      refine z_iastC (j := 5) hx hb hq hK hP hS (pA_102 hW) dX8_loads_35 rfl (by decide) h (fun S_8 H locs hP hS h => ?_)
      refine lv_bipush (v := (-20)) hx hb dX8_loads_36 rfl ?_
      refine lv_istore_n (lv' := [(3, .int (-20)), (2, .int 0), (0, .ref (q 101)), (1, .int a1)]) hx hb dX8_loads_38 rfl hl (by decide) rfl (fun ls hl => ?_)
      exact L39 zF 0 (-20) _ _ _ ls hP hS (lv_sub hl [2, 1, 0] rfl) h
    · refine lv_iconst (v := (-1)) hx hb dX8_loads_21 rfl ?_
      exact z_iret hx hb hlocks hP hS hQ hr dX8_loads_22 h

def fX8_mayBe_72 (k27 : Int32 → Int32 → zT → Option (Int32 × zT)) (x1 : Int32) (x2 : Int32) (S : zT) : Option (Int32 × zT) :=
  k27 x1 (x2 + 1) S
def fX8_mayBe_27 (rec : Int32 → Int32 → zT → Option (Int32 × zT)) (x1 : Int32) (x2 : Int32) (S : zT) : Option (Int32 × zT) :=
  (if (S.1 102 0) ≤ x2 then zbv (fX8_spans (2 * (S.1 102 4)) S) fun S_1 =>
  zbi (fX8_isWithin (2 * (S_1.1 102 5)) S_1) fun r_3 S_2 =>
  if r_3 = 0 ∨ r_3 = 1 then some (r_3, S_2) else none else (if ((zshr x1 x2) &&& 1) = 1 then if ¬ ((7 + x2) < 0 ∨ 48 ≤ (7 + x2).toNatClampNeg) then if ¬ ((15 + x2) < 0 ∨ 48 ≤ (15 + x2).toNatClampNeg) then zbv (fX8_stand (2 * (S.1 102 (7 + x2).toNatClampNeg)) (2 * (S.1 102 (15 + x2).toNatClampNeg)) S) fun S_4 =>
  (fX8_mayBe_72 rec) x1 x2 S_4 else none else none else (fX8_mayBe_72 rec) x1 x2 S))
def fX8_mayBe_20 (x1 : Int32) (S : zT) : Option (Int32 × zT) :=
  zlet (zsi S 101 5 0) fun S_5 =>
  (zfix (fun _ _ _ => none) fX8_mayBe_27 zF) x1 0 S_5
def fX8_mayBe (a1 : Int32) (S : zT) : Option (Int32 × zT) :=
  (if (S.1 102 1) = 2 then zbi (fX8_isPairs a1 S) fun r_7 S_6 =>
  (if r_7 = 0 then some (0, S_6) else fX8_mayBe_20 a1 S_6) else fX8_mayBe_20 a1 S)
abbrev rmX8_mayBe : Room := { frames := 2, cells := 0, slots := 0, locals := 46 }
theorem yd_X8_mayBe : yX8_mayBe.cls = RX8 ∧ yX8_mayBe.cls ≠ "java/lang/invoke/MethodHandle" ∧ yX8_mayBe.cls ≠ "java/lang/invoke/VarHandle" ∧ (parseMethodDescriptor yX8_mayBe.desc).map (fun d => d.parameters.length) = some 1 := by decide +kernel
set_option maxRecDepth 100000 in
set_option maxHeartbeats 4000000 in
theorem ctX8_mayBe {l : Launch} {dC : Nat → ClassId} {dI : Nat → Nat → Nat} {cI : ClassId × ClassId} {cW : List zSh} {q : Nat → Nat} (hq : zI cW q) (hW : zIs cI cW) {a1 : Int32} {S : zT} {o : Int32 × zT} (h : fX8_mayBe a1 S = some o) : zCi l dC dI cI cW q yX8_mayBe (Cond.code yX8_mayBe cX8_mayBe 3 (some .boolean) :: zU) rmX8_mayBe [.ref (q 101), .int a1] S o := by
  refine zMet_i (lv := [(0, .ref (q 101)), (1, .int a1)]) (by decide) (Nat.le_of_ble_eq_true rfl) rfl ?_
  intro p e s m args below meth c Q hx hb hml hr hU hown hlocks hK hN hP hS ls hl hQ
  replace hown : s.vm.findClass RX8 = some m.cls := hown
  unfold fX8_mayBe at h
  have L20 : ∀ (x1 : Int32) (S : zT) (H : Heap) (locs : List Loc) (ls : Array Slot), va_P (dC, dI) vwCl (zWd cI cW q S) H → va_S (zA cW q) s.heap H locs → lv_has ls 3 [(0, .ref (q 101)), (1, .int x1)] → fX8_mayBe_20 x1 S = some o → W p l e rmX8_mayBe s m args below meth c H locs 0 0 Q (F0 m 20 ls []) := by
    intro x1 S H locs ls hP hS hl h
    unfold fX8_mayBe_20 at h
    have L27 : ∀ (n27 : Nat) (x1 : Int32) (x2 : Int32) (S : zT) (H : Heap) (locs : List Loc) (ls : Array Slot), va_P (dC, dI) vwCl (zWd cI cW q S) H → va_S (zA cW q) s.heap H locs → lv_has ls 3 [(0, .ref (q 101)), (1, .int x1), (2, .int x2)] → (zfix (fun _ _ _ => none) fX8_mayBe_27 n27) x1 x2 S = some o → W p l e rmX8_mayBe s m args below meth c H locs 0 0 Q (F0 m 27 ls []) := by
      intro n27
      induction n27 with
      | zero => intro x1 x2 S H locs ls hP hS hl h; exact zno (show (none : Option (Int32 × zT)) = some o from h)
      | succ n27 ih27 =>
        intro x1 x2 S H locs ls hP hS hl h
        replace h : fX8_mayBe_27 (zfix (fun _ _ _ => none) fX8_mayBe_27 n27) x1 x2 S = some o := h
        unfold fX8_mayBe_27 at h
        have L72 : ∀ (x1 : Int32) (x2 : Int32) (S : zT) (H : Heap) (locs : List Loc) (ls : Array Slot), va_P (dC, dI) vwCl (zWd cI cW q S) H → va_S (zA cW q) s.heap H locs → lv_has ls 3 [(0, .ref (q 101)), (1, .int x1), (2, .int x2)] → (fX8_mayBe_72 (zfix (fun _ _ _ => none) fX8_mayBe_27 n27)) x1 x2 S = some o → W p l e rmX8_mayBe s m args below meth c H locs 0 0 Q (F0 m 72 ls []) := by
          intro x1 x2 S H locs ls hP hS hl h
          unfold fX8_mayBe_72 at h
          refine lv_iinc (v := (x2 + 1)) (lv' := [(2, .int (x2 + 1)), (0, .ref (q 101)), (1, .int x1)]) hx hb dX8_mayBe_72 hl (k := 2) rfl rfl (by decide) rfl (fun ls hl => ?_)
          refine lv_goto (tgt := 27) hx hb dX8_mayBe_75 (by decide) ?_
          exact ih27 x1 (x2 + 1) _ _ _ ls hP hS (lv_sub hl [1, 2, 0] rfl) h
        refine lv_iload_n hx hb dX8_mayBe_27 rfl (lv_at hl 2 rfl) ?_
        refine lv_aload_n hx hb dX8_mayBe_28 rfl (lv_at hl 0 rfl) ?_
        refine z_get hx hb hU uU_X8 hown hK hP (p_101 hW) rfl rfl 1 (by decide) (hU _ uF_X8_7) rfl dX8_mayBe_29 ?_
        refine lv_iconst (v := 0) hx hb dX8_mayBe_32 rfl ?_
        refine z_ialdC (j := 0) hx hb hK hP (pA_102 hW) dX8_mayBe_33 rfl (by decide) ?_
        refine z_icmp_ge (tgt := 78) hx hb dX8_mayBe_34 (by decide) h (fun h => ?_) (fun h => ?_)
        · refine lv_aload_n hx hb dX8_mayBe_78 rfl (lv_at hl 0 rfl) ?_
          refine lv_iconst (v := 2) hx hb dX8_mayBe_79 rfl ?_
          refine lv_aload_n hx hb dX8_mayBe_80 rfl (lv_at hl 0 rfl) ?_
          refine z_get hx hb hU uU_X8 hown hK hP (p_101 hW) rfl rfl 1 (by decide) (hU _ uF_X8_7) rfl dX8_mayBe_81 ?_
          refine lv_iconst (v := 4) hx hb dX8_mayBe_84 rfl ?_
          refine z_ialdC (j := 4) hx hb hK hP (pA_102 hW) dX8_mayBe_85 rfl (by decide) ?_
          refine lv_imul hx hb dX8_mayBe_86 ?_
          refine z_callV_v hx hb hml hown hU hK hN hP hS 1 (p_101 hW) rfl rfl (zU_V uL_X8_134 uI_X8_spans uS_X8_spans uN_X8 uC_X8_spans) yd_X8_spans ⟨rfl, rfl⟩ ⟨Nat.le_of_ble_eq_true rfl, Nat.le_of_ble_eq_true rfl⟩ (As := [.int (2 * (S.1 102 4))]) (fun o h9 => ctX8_spans hq hW h9) rfl hl.1 rfl (Nat.le_of_ble_eq_true rfl) dX8_mayBe_87 ⟨Nat.zero_le _, Nat.zero_le _⟩ h (fun S_1 H locs hP hS h => ?_)
          refine lv_aload_n hx hb dX8_mayBe_90 rfl (lv_at hl 0 rfl) ?_
          refine lv_iconst (v := 2) hx hb dX8_mayBe_91 rfl ?_
          refine lv_aload_n hx hb dX8_mayBe_92 rfl (lv_at hl 0 rfl) ?_
          refine z_get hx hb hU uU_X8 hown hK hP (p_101 hW) rfl rfl 1 (by decide) (hU _ uF_X8_7) rfl dX8_mayBe_93 ?_
          refine lv_iconst (v := 5) hx hb dX8_mayBe_96 rfl ?_
          refine z_ialdC (j := 5) hx hb hK hP (pA_102 hW) dX8_mayBe_97 rfl (by decide) ?_
          refine lv_imul hx hb dX8_mayBe_98 ?_
          refine z_callV_i hx hb hml hown hU hK hN hP hS 1 (p_101 hW) rfl rfl (zU_V uL_X8_137 uI_X8_isWithin uS_X8_isWithin uN_X8 uC_X8_isWithin) yd_X8_isWithin ⟨rfl, rfl⟩ ⟨Nat.le_of_ble_eq_true rfl, Nat.le_of_ble_eq_true rfl⟩ (As := [.int (2 * (S_1.1 102 5))]) (fun o h9 => ctX8_isWithin hq hW h9) rfl hl.1 rfl (Nat.le_of_ble_eq_true rfl) dX8_mayBe_99 ⟨Nat.zero_le _, Nat.zero_le _⟩ h (fun r_3 S_2 H locs hP hS h => ?_)
          exact z_zret hx hb hlocks hP hS hQ hr dX8_mayBe_102 h
        · refine lv_iload_n hx hb dX8_mayBe_37 rfl (lv_at hl 1 rfl) ?_
          refine lv_iload_n hx hb dX8_mayBe_38 rfl (lv_at hl 2 rfl) ?_
          refine lv_ishr hx hb dX8_mayBe_39 ?_
          refine lv_iconst (v := 1) hx hb dX8_mayBe_40 rfl ?_
          refine lv_iand hx hb dX8_mayBe_41 ?_
          refine lv_iconst (v := 1) hx hb dX8_mayBe_42 rfl ?_
          refine z_icmp_ne (tgt := 72) hx hb dX8_mayBe_43 (by decide) h (fun h => ?_) (fun h => ?_)
          · exact L72 x1 x2 _ _ _ ls hP hS (lv_sub hl [0, 1, 2] rfl) h
          · refine lv_aload_n hx hb dX8_mayBe_46 rfl (lv_at hl 0 rfl) ?_
            refine lv_iconst (v := 2) hx hb dX8_mayBe_47 rfl ?_
            refine lv_aload_n hx hb dX8_mayBe_48 rfl (lv_at hl 0 rfl) ?_
            refine z_get hx hb hU uU_X8 hown hK hP (p_101 hW) rfl rfl 1 (by decide) (hU _ uF_X8_7) rfl dX8_mayBe_49 ?_
            refine lv_bipush (v := 7) hx hb dX8_mayBe_52 rfl ?_
            refine lv_iload_n hx hb dX8_mayBe_54 rfl (lv_at hl 2 rfl) ?_
            refine lv_iadd hx hb dX8_mayBe_55 ?_
            refine z_iald hx hb hK hP (pA_102 hW) dX8_mayBe_56 h (fun h => ?_)
            refine lv_imul hx hb dX8_mayBe_57 ?_
            refine lv_iconst (v := 2) hx hb dX8_mayBe_58 rfl ?_
            refine lv_aload_n hx hb dX8_mayBe_59 rfl (lv_at hl 0 rfl) ?_
            refine z_get hx hb hU uU_X8 hown hK hP (p_101 hW) rfl rfl 1 (by decide) (hU _ uF_X8_7) rfl dX8_mayBe_60 ?_
            refine lv_bipush (v := 15) hx hb dX8_mayBe_63 rfl ?_
            refine lv_iload_n hx hb dX8_mayBe_65 rfl (lv_at hl 2 rfl) ?_
            refine lv_iadd hx hb dX8_mayBe_66 ?_
            refine z_iald hx hb hK hP (pA_102 hW) dX8_mayBe_67 h (fun h => ?_)
            refine lv_imul hx hb dX8_mayBe_68 ?_
            refine z_callV_v hx hb hml hown hU hK hN hP hS 2 (p_101 hW) rfl rfl (zU_V uL_X8_121 uI_X8_stand uS_X8_stand uN_X8 uC_X8_stand) yd_X8_stand ⟨rfl, rfl⟩ ⟨Nat.le_of_ble_eq_true rfl, Nat.le_of_ble_eq_true rfl⟩ (As := [.int (2 * (S.1 102 (7 + x2).toNatClampNeg)), .int (2 * (S.1 102 (15 + x2).toNatClampNeg))]) (fun o h9 => ctX8_stand hq hW h9) rfl hl.1 rfl (Nat.le_of_ble_eq_true rfl) dX8_mayBe_69 ⟨Nat.zero_le _, Nat.zero_le _⟩ h (fun S_4 H locs hP hS h => ?_)
            exact L72 x1 x2 _ _ _ ls hP hS (lv_sub hl [0, 1, 2] rfl) h
    refine lv_aload_n hx hb dX8_mayBe_20 rfl (lv_at hl 0 rfl) ?_
    refine lv_iconst (v := 0) hx hb dX8_mayBe_21 rfl ?_
    refine z_puti hx hb hU uU_X8 tyX8 tyX8_ok nmX8 hown hq hK hP hS (p_101 hW) rfl rfl 5 (by decide) (hU _ uF_X8_100) rfl rfl rfl (Nat.le_of_ble_eq_true rfl) rfl dX8_mayBe_22 h (fun S_5 H locs hP hS h => ?_)
    refine lv_iconst (v := 0) hx hb dX8_mayBe_25 rfl ?_
    refine lv_istore_n (lv' := [(2, .int 0), (0, .ref (q 101)), (1, .int x1)]) hx hb dX8_mayBe_26 rfl hl (by decide) rfl (fun ls hl => ?_)
    exact L27 zF x1 0 _ _ _ ls hP hS (lv_sub hl [1, 2, 0] rfl) h
  refine lv_aload_n hx hb dX8_mayBe_0 rfl (lv_at hl 0 rfl) ?_
  refine z_get hx hb hU uU_X8 hown hK hP (p_101 hW) rfl rfl 1 (by decide) (hU _ uF_X8_7) rfl dX8_mayBe_1 ?_
  refine lv_iconst (v := 1) hx hb dX8_mayBe_4 rfl ?_
  refine z_ialdC (j := 1) hx hb hK hP (pA_102 hW) dX8_mayBe_5 rfl (by decide) ?_
  refine lv_iconst (v := 2) hx hb dX8_mayBe_6 rfl ?_
  refine z_icmp_ne (tgt := 20) hx hb dX8_mayBe_7 (by decide) h (fun h => ?_) (fun h => ?_)
  · exact L20 a1 _ _ _ ls hP hS (lv_sub hl [0, 1] rfl) h
  · refine lv_aload_n hx hb dX8_mayBe_10 rfl (lv_at hl 0 rfl) ?_
    refine lv_iload_n hx hb dX8_mayBe_11 rfl (lv_at hl 1 rfl) ?_
    refine z_callV_i hx hb hml hown hU hK hN hP hS 1 (p_101 hW) rfl rfl (zU_V uL_X8_124 uI_X8_isPairs uS_X8_isPairs uN_X8 uC_X8_isPairs) yd_X8_isPairs ⟨rfl, rfl⟩ ⟨Nat.le_of_ble_eq_true rfl, Nat.le_of_ble_eq_true rfl⟩ (As := [.int a1]) (fun o h9 => ctX8_isPairs hq hW h9) rfl hl.1 rfl (Nat.le_of_ble_eq_true rfl) dX8_mayBe_12 ⟨Nat.zero_le _, Nat.zero_le _⟩ h (fun r_7 S_6 H locs hP hS h => ?_)
    refine z_if_ne (tgt := 20) hx hb dX8_mayBe_15 (by decide) h (fun h => ?_) (fun h => ?_)
    · exact L20 a1 _ _ _ ls hP hS (lv_sub hl [0, 1] rfl) h
    · refine lv_iconst (v := 0) hx hb dX8_mayBe_18 rfl ?_
      exact z_zretC hx hb hlocks hP hS hQ hr dX8_mayBe_19 (Or.inl rfl) h

def fX8_ones_4 (rec : Int32 → Int32 → zT → Option (Int32 × zT)) (x2 : Int32) (x3 : Int32) (S : zT) : Option (Int32 × zT) :=
  (if x3 = 0 then some (x2, S) else rec (x2 + 1) (x3 &&& (x3 - 1)) S)
def fX8_ones (a1 : Int32) (S : zT) : Option (Int32 × zT) :=
  (zfix (fun _ _ _ => none) fX8_ones_4 zF) 0 a1 S
abbrev rmX8_ones : Room := { frames := 0, cells := 0, slots := 0, locals := 0 }
theorem yd_X8_ones : yX8_ones.cls = RX8 ∧ yX8_ones.cls ≠ "java/lang/invoke/MethodHandle" ∧ yX8_ones.cls ≠ "java/lang/invoke/VarHandle" ∧ (parseMethodDescriptor yX8_ones.desc).map (fun d => d.parameters.length) = some 1 := by decide +kernel
set_option maxRecDepth 100000 in
set_option maxHeartbeats 4000000 in
theorem ctX8_ones {l : Launch} {dC : Nat → ClassId} {dI : Nat → Nat → Nat} {cI : ClassId × ClassId} {cW : List zSh} {q : Nat → Nat} (hq : zI cW q) (hW : zIs cI cW) {a1 : Int32} {S : zT} {o : Int32 × zT} (h : fX8_ones a1 S = some o) : zCi l dC dI cI cW q yX8_ones (Cond.code yX8_ones cX8_ones 4 (some .int) :: zU) rmX8_ones [.ref (q 101), .int a1] S o := by
  refine zMet_i (lv := [(0, .ref (q 101)), (1, .int a1)]) (by decide) (Nat.le_of_ble_eq_true rfl) rfl ?_
  intro p e s m args below meth c Q hx hb hml hr hU hown hlocks hK hN hP hS ls hl hQ
  replace hown : s.vm.findClass RX8 = some m.cls := hown
  unfold fX8_ones at h
  have L4 : ∀ (n4 : Nat) (x2 : Int32) (x3 : Int32) (S : zT) (H : Heap) (locs : List Loc) (ls : Array Slot), va_P (dC, dI) vwCl (zWd cI cW q S) H → va_S (zA cW q) s.heap H locs → lv_has ls 4 [(2, .int x2), (3, .int x3)] → (zfix (fun _ _ _ => none) fX8_ones_4 n4) x2 x3 S = some o → W p l e rmX8_ones s m args below meth c H locs 0 0 Q (F0 m 4 ls []) := by
    intro n4
    induction n4 with
    | zero => intro x2 x3 S H locs ls hP hS hl h; exact zno (show (none : Option (Int32 × zT)) = some o from h)
    | succ n4 ih4 =>
      intro x2 x3 S H locs ls hP hS hl h
      replace h : fX8_ones_4 (zfix (fun _ _ _ => none) fX8_ones_4 n4) x2 x3 S = some o := h
      unfold fX8_ones_4 at h
      refine lv_iload_n hx hb dX8_ones_4 rfl (lv_at hl 1 rfl) ?_
      refine z_if_eq (tgt := 21) hx hb dX8_ones_5 (by decide) h (fun h => ?_) (fun h => ?_)
      · refine lv_iload_n hx hb dX8_ones_21 rfl (lv_at hl 0 rfl) ?_
        exact z_iret hx hb hlocks hP hS hQ hr dX8_ones_22 h
      · refine lv_iload_n hx hb dX8_ones_8 rfl (lv_at hl 0 rfl) ?_
        refine lv_iconst (v := 1) hx hb dX8_ones_9 rfl ?_
        refine lv_iadd hx hb dX8_ones_10 ?_
        refine lv_istore_n (lv' := [(2, .int (x2 + 1)), (3, .int x3)]) hx hb dX8_ones_11 rfl hl (by decide) rfl (fun ls hl => ?_)
        refine lv_iload_n hx hb dX8_ones_12 rfl (lv_at hl 1 rfl) ?_
        refine lv_iload_n hx hb dX8_ones_13 rfl (lv_at hl 1 rfl) ?_
        refine lv_iconst (v := 1) hx hb dX8_ones_14 rfl ?_
        refine lv_isub hx hb dX8_ones_15 ?_
        refine lv_iand hx hb dX8_ones_16 ?_
        refine lv_istore_n (lv' := [(3, .int (x3 &&& (x3 - 1))), (2, .int (x2 + 1))]) hx hb dX8_ones_17 rfl hl (by decide) rfl (fun ls hl => ?_)
        refine lv_goto (tgt := 4) hx hb dX8_ones_18 (by decide) ?_
        exact ih4 (x2 + 1) (x3 &&& (x3 - 1)) _ _ _ ls hP hS (lv_sub hl [1, 0] rfl) h
  refine lv_iconst (v := 0) hx hb dX8_ones_0 rfl ?_
  refine lv_istore_n (lv' := [(2, .int 0), (0, .ref (q 101)), (1, .int a1)]) hx hb dX8_ones_1 rfl hl (by decide) rfl (fun ls hl => ?_)
  refine lv_iload_n hx hb dX8_ones_2 rfl (lv_at hl 2 rfl) ?_
  refine lv_istore_n (lv' := [(3, .int a1), (2, .int 0), (0, .ref (q 101)), (1, .int a1)]) hx hb dX8_ones_3 rfl hl (by decide) rfl (fun ls hl => ?_)
  exact L4 zF 0 a1 _ _ _ ls hP hS (lv_sub hl [1, 0] rfl) h

