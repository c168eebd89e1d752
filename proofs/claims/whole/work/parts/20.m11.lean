def fX8_laysRow_70 (k10 : Int32 → Int32 → Int32 → zT → Option zT) (x1 : Int32) (x2 : Int32) (x3 : Int32) (x4 : Int32) (S : zT) : Option zT :=
  if ¬ ((23 + x3) < 0 ∨ 48 ≤ (23 + x3).toNatClampNeg) then zlet (zsi S 102 (23 + x3).toNatClampNeg x4) (fun S_1 =>
  k10 x1 x2 (x3 + 1) S_1) else none
def fX8_laysRow_64 (k22 : Int32 → Int32 → Int32 → Int32 → Int32 → zT → Option zT) (x1 : Int32) (x2 : Int32) (x3 : Int32) (x4 : Int32) (x5 : Int32) (S : zT) : Option zT :=
  k22 x1 x2 x3 x4 (x5 + 1) S
def fX8_laysRow_22 (k10 : Int32 → Int32 → Int32 → zT → Option zT) (rec : Int32 → Int32 → Int32 → Int32 → Int32 → zT → Option zT) (x1 : Int32) (x2 : Int32) (x3 : Int32) (x4 : Int32) (x5 : Int32) (S : zT) : Option zT :=
  (if (S.1 102 0) ≤ x5 then (fX8_laysRow_70 k10) x1 x2 x3 x4 S else (if x1 ≤ x3 then (fX8_laysRow_70 k10) x1 x2 x3 x4 S else if ¬ (x5 < 0 ∨ 8 ≤ x5.toNatClampNeg) then if ¬ x1 = 0 then (if (((x3 - (S.1 107 x5.toNatClampNeg)) + x1) - ((x3 - (S.1 107 x5.toNatClampNeg)) + x1) / x1 * x1) < x2 then (fX8_laysRow_64 rec) x1 x2 x3 x4 x5 S else (fX8_laysRow_64 rec) x1 x2 x3 (x4 ||| (zshl 1 x5)) x5 S) else none else none))
def fX8_laysRow_10 (rec : Int32 → Int32 → Int32 → zT → Option zT) (x1 : Int32) (x2 : Int32) (x3 : Int32) (S : zT) : Option zT :=
  (if 16 ≤ x3 then some S else (zfix (fun _ _ _ _ _ _ => none) (fX8_laysRow_22 rec) zF) x1 x2 x3 0 0 S)
def fX8_laysRow (a1 : Int32) (a2 : Int32) (S : zT) : Option zT :=
  zlet (zsi S 102 6 a1) fun S_2 =>
  (zfix (fun _ _ _ _ => none) fX8_laysRow_10 zF) a1 a2 0 S_2
abbrev rmX8_laysRow : Room := { frames := 0, cells := 0, slots := 0, locals := 0 }
theorem yd_X8_laysRow : yX8_laysRow.cls = RX8 ∧ yX8_laysRow.cls ≠ "java/lang/invoke/MethodHandle" ∧ yX8_laysRow.cls ≠ "java/lang/invoke/VarHandle" ∧ (parseMethodDescriptor yX8_laysRow.desc).map (fun d => d.parameters.length) = some 2 := by decide +kernel
set_option maxRecDepth 100000 in
set_option maxHeartbeats 4000000 in
theorem ctX8_laysRow {l : Launch} {dC : Nat → ClassId} {dI : Nat → Nat → Nat} {cI : ClassId × ClassId} {cW : List zSh} {q : Nat → Nat} (hq : zI cW q) (hW : zIs cI cW) {a1 : Int32} {a2 : Int32} {S : zT} {o : zT} (h : fX8_laysRow a1 a2 S = some o) : zCv l dC dI cI cW q yX8_laysRow (Cond.code yX8_laysRow cX8_laysRow 6 none :: zU) rmX8_laysRow [.ref (q 101), .int a1, .int a2] S o := by
  refine zMet_v (lv := [(0, .ref (q 101)), (1, .int a1), (2, .int a2)]) (by decide) (Nat.le_of_ble_eq_true rfl) rfl ?_
  intro p e s m args below meth c Q hx hb hml hr hU hown hlocks hK hN hP hS ls hl hQ
  replace hown : s.vm.findClass RX8 = some m.cls := hown
  unfold fX8_laysRow at h
  have L10 : ∀ (n10 : Nat) (x1 : Int32) (x2 : Int32) (x3 : Int32) (S : zT) (H : Heap) (locs : List Loc) (ls : Array Slot), va_P (dC, dI) vwCl (zWd cI cW q S) H → va_S (zA cW q) s.heap H locs → lv_has ls 6 [(0, .ref (q 101)), (1, .int x1), (2, .int x2), (3, .int x3)] → (zfix (fun _ _ _ _ => none) fX8_laysRow_10 n10) x1 x2 x3 S = some o → W p l e rmX8_laysRow s m args below meth c H locs 0 0 Q (F0 m 10 ls []) := by
    intro n10
    induction n10 with
    | zero => intro x1 x2 x3 S H locs ls hP hS hl h; exact zno (show (none : Option zT) = some o from h)
    | succ n10 ih10 =>
      intro x1 x2 x3 S H locs ls hP hS hl h
      replace h : fX8_laysRow_10 (zfix (fun _ _ _ _ => none) fX8_laysRow_10 n10) x1 x2 x3 S = some o := h
      unfold fX8_laysRow_10 at h
      have L22 : ∀ (n22 : Nat) (x1 : Int32) (x2 : Int32) (x3 : Int32) (x4 : Int32) (x5 : Int32) (S : zT) (H : Heap) (locs : List Loc) (ls : Array Slot), va_P (dC, dI) vwCl (zWd cI cW q S) H → va_S (zA cW q) s.heap H locs → lv_has ls 6 [(0, .ref (q 101)), (1, .int x1), (2, .int x2), (3, .int x3), (4, .int x4), (5, .int x5)] → (zfix (fun _ _ _ _ _ _ => none) (fX8_laysRow_22 (zfix (fun _ _ _ _ => none) fX8_laysRow_10 n10)) n22) x1 x2 x3 x4 x5 S = some o → W p l e rmX8_laysRow s m args below meth c H locs 0 0 Q (F0 m 22 ls []) := by
        intro n22
        induction n22 with
        | zero => intro x1 x2 x3 x4 x5 S H locs ls hP hS hl h; exact zno (show (none : Option zT) = some o from h)
        | succ n22 ih22 =>
          intro x1 x2 x3 x4 x5 S H locs ls hP hS hl h
          replace h : fX8_laysRow_22 (zfix (fun _ _ _ _ => none) fX8_laysRow_10 n10) (zfix (fun _ _ _ _ _ _ => none) (fX8_laysRow_22 (zfix (fun _ _ _ _ => none) fX8_laysRow_10 n10)) n22) x1 x2 x3 x4 x5 S = some o := h
          unfold fX8_laysRow_22 at h
          have L70 : ∀ (x1 : Int32) (x2 : Int32) (x3 : Int32) (x4 : Int32) (S : zT) (H : Heap) (locs : List Loc) (ls : Array Slot), va_P (dC, dI) vwCl (zWd cI cW q S) H → va_S (zA cW q) s.heap H locs → lv_has ls 6 [(0, .ref (q 101)), (1, .int x1), (2, .int x2), (3, .int x3), (4, .int x4)] → (fX8_laysRow_70 (zfix (fun _ _ _ _ => none) fX8_laysRow_10 n10)) x1 x2 x3 x4 S = some o → W p l e rmX8_laysRow s m args below meth c H locs 0 0 Q (F0 m 70 ls []) := by
            intro x1 x2 x3 x4 S H locs ls hP hS hl h
            unfold fX8_laysRow_70 at h
            refine lv_aload_n hx hb dX8_laysRow_70 rfl (lv_at hl 0 rfl) ?_
            refine z_get hx hb hU uU_X8 hown hK hP (p_101 hW) rfl rfl 1 (by decide) (hU _ uF_X8_7) rfl dX8_laysRow_71 ?_
            refine lv_bipush (v := 23) hx hb dX8_laysRow_74 rfl ?_
            refine lv_iload_n hx hb dX8_laysRow_76 rfl (lv_at hl 3 rfl) ?_
            refine lv_iadd hx hb dX8_laysRow_77 ?_
            refine lv_iload hx hb dX8_laysRow_78 (lv_at hl 4 rfl) ?_
            refine z_iast hx hb hq hK hP hS (pA_102 hW) dX8_laysRow_80 h (fun S_1 H locs hP hS h => ?_)
            refine lv_iinc (v := (x3 + 1)) (lv' := [(3, .int (x3 + 1)), (0, .ref (q 101)), (1, .int x1), (2, .int x2), (4, .int x4)]) hx hb dX8_laysRow_81 hl (k := 3) rfl rfl (by decide) rfl (fun ls hl => ?_)
            refine lv_goto (tgt := 10) hx hb dX8_laysRow_84 (by decide) ?_
            exact ih10 x1 x2 (x3 + 1) _ _ _ ls hP hS (lv_sub hl [1, 2, 3, 0] rfl) h
          have L64 : ∀ (x1 : Int32) (x2 : Int32) (x3 : Int32) (x4 : Int32) (x5 : Int32) (S : zT) (H : Heap) (locs : List Loc) (ls : Array Slot), va_P (dC, dI) vwCl (zWd cI cW q S) H → va_S (zA cW q) s.heap H locs → lv_has ls 6 [(0, .ref (q 101)), (1, .int x1), (2, .int x2), (3, .int x3), (4, .int x4), (5, .int x5)] → (fX8_laysRow_64 (zfix (fun _ _ _ _ _ _ => none) (fX8_laysRow_22 (zfix (fun _ _ _ _ => none) fX8_laysRow_10 n10)) n22)) x1 x2 x3 x4 x5 S = some o → W p l e rmX8_laysRow s m args below meth c H locs 0 0 Q (F0 m 64 ls []) := by
            intro x1 x2 x3 x4 x5 S H locs ls hP hS hl h
            unfold fX8_laysRow_64 at h
            refine lv_iinc (v := (x5 + 1)) (lv' := [(5, .int (x5 + 1)), (0, .ref (q 101)), (1, .int x1), (2, .int x2), (3, .int x3), (4, .int x4)]) hx hb dX8_laysRow_64 hl (k := 5) rfl rfl (by decide) rfl (fun ls hl => ?_)
            refine lv_goto (tgt := 22) hx hb dX8_laysRow_67 (by decide) ?_
            exact ih22 x1 x2 x3 x4 (x5 + 1) _ _ _ ls hP hS (lv_sub hl [1, 2, 3, 4, 5, 0] rfl) h
          refine lv_iload hx hb dX8_laysRow_22 (lv_at hl 5 rfl) ?_
          refine lv_aload_n hx hb dX8_laysRow_24 rfl (lv_at hl 0 rfl) ?_
          refine z_get hx hb hU uU_X8 hown hK hP (p_101 hW) rfl rfl 1 (by decide) (hU _ uF_X8_7) rfl dX8_laysRow_25 ?_
          refine lv_iconst (v := 0) hx hb dX8_laysRow_28 rfl ?_
          refine z_ialdC (j := 0) hx hb hK hP (pA_102 hW) dX8_laysRow_29 rfl (by decide) ?_
          refine z_icmp_ge (tgt := 70) hx hb dX8_laysRow_30 (by decide) h (fun h => ?_) (fun h => ?_)
          · exact L70 x1 x2 x3 x4 _ _ _ ls hP hS (lv_sub hl [0, 1, 2, 3, 4] rfl) h
          · refine lv_iload_n hx hb dX8_laysRow_33 rfl (lv_at hl 3 rfl) ?_
            refine lv_iload_n hx hb dX8_laysRow_34 rfl (lv_at hl 1 rfl) ?_
            refine z_icmp_ge (tgt := 70) hx hb dX8_laysRow_35 (by decide) h (fun h => ?_) (fun h => ?_)
            · exact L70 x1 x2 x3 x4 _ _ _ ls hP hS (lv_sub hl [0, 1, 2, 3, 4] rfl) h
            · refine lv_iload_n hx hb dX8_laysRow_38 rfl (lv_at hl 3 rfl) ?_
              refine lv_aload_n hx hb dX8_laysRow_39 rfl (lv_at hl 0 rfl) ?_
              refine z_get hx hb hU uU_X8 hown hK hP (p_101 hW) rfl rfl 19 (by decide) (hU _ uF_X8_25) rfl dX8_laysRow_40 ?_
              refine lv_iload hx hb dX8_laysRow_43 (lv_at hl 5 rfl) ?_
              refine z_iald hx hb hK hP (pA_107 hW) dX8_laysRow_45 h (fun h => ?_)
              refine lv_isub hx hb dX8_laysRow_46 ?_
              refine lv_iload_n hx hb dX8_laysRow_47 rfl (lv_at hl 1 rfl) ?_
              refine lv_iadd hx hb dX8_laysRow_48 ?_
              refine lv_iload_n hx hb dX8_laysRow_49 rfl (lv_at hl 1 rfl) ?_
              refine z_irem hx hb dX8_laysRow_50 h (fun h => ?_)
              refine lv_iload_n hx hb dX8_laysRow_51 rfl (lv_at hl 2 rfl) ?_
              refine z_icmp_lt (tgt := 64) hx hb dX8_laysRow_52 (by decide) h (fun h => ?_) (fun h => ?_)
              · exact L64 x1 x2 x3 x4 x5 _ _ _ ls hP hS (lv_sub hl [0, 1, 2, 3, 4, 5] rfl) h
              · refine lv_iload hx hb dX8_laysRow_55 (lv_at hl 4 rfl) ?_
                refine lv_iconst (v := 1) hx hb dX8_laysRow_57 rfl ?_
                refine lv_iload hx hb dX8_laysRow_58 (lv_at hl 5 rfl) ?_
                refine lv_ishl hx hb dX8_laysRow_60 ?_
                refine lv_ior hx hb dX8_laysRow_61 ?_
                refine lv_istore (lv' := [(4, .int (x4 ||| (zshl 1 x5))), (0, .ref (q 101)), (1, .int x1), (2, .int x2), (3, .int x3), (5, .int x5)]) hx hb dX8_laysRow_62 hl (by decide) rfl (fun ls hl => ?_)
                exact L64 x1 x2 x3 (x4 ||| (zshl 1 x5)) x5 _ _ _ ls hP hS (lv_sub hl [1, 2, 3, 4, 0, 5] rfl) h
      refine lv_iload_n hx hb dX8_laysRow_10 rfl (lv_at hl 3 rfl) ?_
      refine lv_bipush (v := 16) hx hb dX8_laysRow_11 rfl ?_
      refine z_icmp_ge (tgt := 87) hx hb dX8_laysRow_13 (by decide) h (fun h => ?_) (fun h => ?_)
      · exact z_vret hx hb hlocks hP hS hQ hr dX8_laysRow_87 h
      · refine lv_iconst (v := 0) hx hb dX8_laysRow_16 rfl ?_
        refine lv_istore (lv' := [(4, .int 0), (0, .ref (q 101)), (1, .int x1), (2, .int x2), (3, .int x3)]) hx hb dX8_laysRow_17 hl (by decide) rfl (fun ls hl => ?_)
        refine lv_iconst (v := 0) hx hb dX8_laysRow_19 rfl ?_
        refine lv_istore (lv' := [(5, .int 0), (4, .int 0), (0, .ref (q 101)), (1, .int x1), (2, .int x2), (3, .int x3)]) hx hb dX8_laysRow_20 hl (by decide) rfl (fun ls hl => ?_)
        exact L22 zF x1 x2 x3 0 0 _ _ _ ls hP hS (lv_sub hl [2, 3, 4, 5, 1, 0] rfl) h
  refine lv_aload_n hx hb dX8_laysRow_0 rfl (lv_at hl 0 rfl) ?_
  refine z_get hx hb hU uU_X8 hown hK hP (p_101 hW) rfl rfl 1 (by decide) (hU _ uF_X8_7) rfl dX8_laysRow_1 ?_
  refine lv_bipush (v := 6) hx hb dX8_laysRow_4 rfl ?_
  refine lv_iload_n hx hb dX8_laysRow_6 rfl (lv_at hl 1 rfl) ?_
  refine z_iastC (j := 6) hx hb hq hK hP hS (pA_102 hW) dX8_laysRow_7 rfl (by decide) h (fun S_2 H locs hP hS h => ?_)
  refine lv_iconst (v := 0) hx hb dX8_laysRow_8 rfl ?_
  refine lv_istore_n (lv' := [(3, .int 0), (0, .ref (q 101)), (1, .int a1), (2, .int a2)]) hx hb dX8_laysRow_9 rfl hl (by decide) rfl (fun ls hl => ?_)
  exact L10 zF a1 a2 0 _ _ _ ls hP hS (lv_sub hl [1, 2, 3, 0] rfl) h

def fX8_regular_69 (rec : Int32 → Int32 → Int32 → Int32 → zT → Option (Int32 × zT)) (x1 : Int32) (x2 : Int32) (x3 : Int32) (x4 : Int32) (S : zT) : Option (Int32 × zT) :=
  (if (S.1 102 0) ≤ x4 then zbv (fX8_laysRow x1 x2 S) fun S_1 =>
  some (1, S_1) else if ¬ (x4 < 0 ∨ 8 ≤ x4.toNatClampNeg) then zlet (zsi S 107 x4.toNatClampNeg ((zshr x3 (4 * x4)) &&& 15)) (fun S_2 =>
  rec x1 x2 x3 (x4 + 1) S_2) else none)
def fX8_regular_23 (rec : Int32 → Int32 → Int32 → Int32 → zT → Option (Int32 × zT)) (x1 : Int32) (x2 : Int32) (x3 : Int32) (x4 : Int32) (S : zT) : Option (Int32 × zT) :=
  (if (S.1 102 0) ≤ x4 then zbv (fX8_keep S) fun S_3 =>
  zlet (zsi S_3 107 0 0) fun S_4 =>
  (zfix (fun _ _ _ _ _ => none) fX8_regular_69 zF) x1 x2 x3 1 S_4 else (if ((zshr x3 (4 * x4)) &&& 15) < x1 then rec x1 x2 x3 (x4 + 1) S else some (0, S)))
def fX8_regular (a1 : Int32) (a2 : Int32) (a3 : Int32) (S : zT) : Option (Int32 × zT) :=
  zlet (zsi S 101 0 0) fun S_5 =>
  zbv (fX8_begins S_5) fun S_6 =>
  zbi (fX8_isRegular a1 a2 S_6) fun r_8 S_7 =>
  (if r_8 = 0 then some (0, S_7) else (zfix (fun _ _ _ _ _ => none) fX8_regular_23 zF) a1 a2 a3 1 S_7)
abbrev rmX8_regular : Room := { frames := 2, cells := 0, slots := 0, locals := 43 }
theorem yd_X8_regular : yX8_regular.cls = RX8 ∧ yX8_regular.cls ≠ "java/lang/invoke/MethodHandle" ∧ yX8_regular.cls ≠ "java/lang/invoke/VarHandle" ∧ (parseMethodDescriptor yX8_regular.desc).map (fun d => d.parameters.length) = some 3 := by decide +kernel
set_option maxRecDepth 100000 in
set_option maxHeartbeats 4000000 in
theorem ctX8_regular {l : Launch} {dC : Nat → ClassId} {dI : Nat → Nat → Nat} {cI : ClassId × ClassId} {cW : List zSh} {q : Nat → Nat} (hq : zI cW q) (hW : zIs cI cW) {a1 : Int32} {a2 : Int32} {a3 : Int32} {S : zT} {o : Int32 × zT} (h : fX8_regular a1 a2 a3 S = some o) : zCi l dC dI cI cW q yX8_regular (Cond.code yX8_regular cX8_regular 5 (some .boolean) :: zU) rmX8_regular [.ref (q 101), .int a1, .int a2, .int a3] S o := by
  refine zMet_i (lv := [(0, .ref (q 101)), (1, .int a1), (2, .int a2), (3, .int a3)]) (by decide) (Nat.le_of_ble_eq_true rfl) rfl ?_
  intro p e s m args below meth c Q hx hb hml hr hU hown hlocks hK hN hP hS ls hl hQ
  replace hown : s.vm.findClass RX8 = some m.cls := hown
  unfold fX8_regular at h
  have L23 : ∀ (n23 : Nat) (x1 : Int32) (x2 : Int32) (x3 : Int32) (x4 : Int32) (S : zT) (H : Heap) (locs : List Loc) (ls : Array Slot), va_P (dC, dI) vwCl (zWd cI cW q S) H → va_S (zA cW q) s.heap H locs → lv_has ls 5 [(0, .ref (q 101)), (1, .int x1), (2, .int x2), (3, .int x3), (4, .int x4)] → (zfix (fun _ _ _ _ _ => none) fX8_regular_23 n23) x1 x2 x3 x4 S = some o → W p l e rmX8_regular s m args below meth c H locs 0 0 Q (F0 m 23 ls []) := by
    intro n23
    induction n23 with
    | zero => intro x1 x2 x3 x4 S H locs ls hP hS hl h; exact zno (show (none : Option (Int32 × zT)) = some o from h)
    | succ n23 ih23 =>
      intro x1 x2 x3 x4 S H locs ls hP hS hl h
      replace h : fX8_regular_23 (zfix (fun _ _ _ _ _ => none) fX8_regular_23 n23) x1 x2 x3 x4 S = some o := h
      unfold fX8_regular_23 at h
      have L69 : ∀ (n69 : Nat) (x1 : Int32) (x2 : Int32) (x3 : Int32) (x4 : Int32) (S : zT) (H : Heap) (locs : List Loc) (ls : Array Slot), va_P (dC, dI) vwCl (zWd cI cW q S) H → va_S (zA cW q) s.heap H locs → lv_has ls 5 [(0, .ref (q 101)), (1, .int x1), (2, .int x2), (3, .int x3), (4, .int x4)] → (zfix (fun _ _ _ _ _ => none) fX8_regular_69 n69) x1 x2 x3 x4 S = some o → W p l e rmX8_regular s m args below meth c H locs 0 0 Q (F0 m 69 ls []) := by
        intro n69
        induction n69 with
        | zero => intro x1 x2 x3 x4 S H locs ls hP hS hl h; exact zno (show (none : Option (Int32 × zT)) = some o from h)
        | succ n69 ih69 =>
          intro x1 x2 x3 x4 S H locs ls hP hS hl h
          replace h : fX8_regular_69 (zfix (fun _ _ _ _ _ => none) fX8_regular_69 n69) x1 x2 x3 x4 S = some o := h
          unfold fX8_regular_69 at h
          refine lv_iload hx hb dX8_regular_69 (lv_at hl 4 rfl) ?_
          refine lv_aload_n hx hb dX8_regular_71 rfl (lv_at hl 0 rfl) ?_
          refine z_get hx hb hU uU_X8 hown hK hP (p_101 hW) rfl rfl 1 (by decide) (hU _ uF_X8_7) rfl dX8_regular_72 ?_
          refine lv_iconst (v := 0) hx hb dX8_regular_75 rfl ?_
          refine z_ialdC (j := 0) hx hb hK hP (pA_102 hW) dX8_regular_76 rfl (by decide) ?_
          refine z_icmp_ge (tgt := 102) hx hb dX8_regular_77 (by decide) h (fun h => ?_) (fun h => ?_)
          · refine lv_aload_n hx hb dX8_regular_102 rfl (lv_at hl 0 rfl) ?_
            refine lv_iload_n hx hb dX8_regular_103 rfl (lv_at hl 1 rfl) ?_
            refine lv_iload_n hx hb dX8_regular_104 rfl (lv_at hl 2 rfl) ?_
            refine z_callV_v hx hb hml hown hU hK hN hP hS 2 (p_101 hW) rfl rfl (zU_V uL_X8_184 uI_X8_laysRow uS_X8_laysRow uN_X8 uC_X8_laysRow) yd_X8_laysRow ⟨rfl, rfl⟩ ⟨Nat.le_of_ble_eq_true rfl, Nat.le_of_ble_eq_true rfl⟩ (As := [.int x1, .int x2]) (fun o h9 => ctX8_laysRow hq hW h9) rfl hl.1 rfl (Nat.le_of_ble_eq_true rfl) dX8_regular_105 ⟨Nat.zero_le _, Nat.zero_le _⟩ h (fun S_1 H locs hP hS h => ?_)
            refine lv_iconst (v := 1) hx hb dX8_regular_108 rfl ?_
            exact z_zretC hx hb hlocks hP hS hQ hr dX8_regular_109 (Or.inr rfl) h
          · refine lv_aload_n hx hb dX8_regular_80 rfl (lv_at hl 0 rfl) ?_
            refine z_get hx hb hU uU_X8 hown hK hP (p_101 hW) rfl rfl 19 (by decide) (hU _ uF_X8_25) rfl dX8_regular_81 ?_
            refine lv_iload hx hb dX8_regular_84 (lv_at hl 4 rfl) ?_
            refine lv_iload_n hx hb dX8_regular_86 rfl (lv_at hl 3 rfl) ?_
            refine lv_iconst (v := 4) hx hb dX8_regular_87 rfl ?_
            refine lv_iload hx hb dX8_regular_88 (lv_at hl 4 rfl) ?_
            refine lv_imul hx hb dX8_regular_90 ?_
            refine lv_ishr hx hb dX8_regular_91 ?_
            refine lv_bipush (v := 15) hx hb dX8_regular_92 rfl ?_
            refine lv_iand hx hb dX8_regular_94 ?_
            refine z_iast hx hb hq hK hP hS (pA_107 hW) dX8_regular_95 h (fun S_2 H locs hP hS h => ?_)
            refine lv_iinc (v := (x4 + 1)) (lv' := [(4, .int (x4 + 1)), (0, .ref (q 101)), (1, .int x1), (2, .int x2), (3, .int x3)]) hx hb dX8_regular_96 hl (k := 4) rfl rfl (by decide) rfl (fun ls hl => ?_)
            refine lv_goto (tgt := 69) hx hb dX8_regular_99 (by decide) ?_
            exact ih69 x1 x2 x3 (x4 + 1) _ _ _ ls hP hS (lv_sub hl [1, 2, 3, 4, 0] rfl) h
      refine lv_iload hx hb dX8_regular_23 (lv_at hl 4 rfl) ?_
      refine lv_aload_n hx hb dX8_regular_25 rfl (lv_at hl 0 rfl) ?_
      refine z_get hx hb hU uU_X8 hown hK hP (p_101 hW) rfl rfl 1 (by decide) (hU _ uF_X8_7) rfl dX8_regular_26 ?_
      refine lv_iconst (v := 0) hx hb dX8_regular_29 rfl ?_
      refine z_ialdC (j := 0) hx hb hK hP (pA_102 hW) dX8_regular_30 rfl (by decide) ?_
      refine z_icmp_ge (tgt := 55) hx hb dX8_regular_31 (by decide) h (fun h => ?_) (fun h => ?_)
      · refine lv_aload_n hx hb dX8_regular_55 rfl (lv_at hl 0 rfl) ?_
        refine z_callV_v hx hb hml hown hU hK hN hP hS 0 (p_101 hW) rfl rfl (zU_V uL_X8_52 uI_X8_keep uS_X8_keep uN_X8 uC_X8_keep) yd_X8_keep ⟨rfl, rfl⟩ ⟨Nat.le_of_ble_eq_true rfl, Nat.le_of_ble_eq_true rfl⟩ (As := []) (fun o h9 => ctX8_keep hq hW h9) rfl hl.1 rfl (Nat.le_of_ble_eq_true rfl) dX8_regular_56 ⟨Nat.zero_le _, Nat.zero_le _⟩ h (fun S_3 H locs hP hS h => ?_)
        refine lv_aload_n hx hb dX8_regular_59 rfl (lv_at hl 0 rfl) ?_
        refine z_get hx hb hU uU_X8 hown hK hP (p_101 hW) rfl rfl 19 (by decide) (hU _ uF_X8_25) rfl dX8_regular_60 ?_
        refine lv_iconst (v := 0) hx hb dX8_regular_63 rfl ?_
        refine lv_iconst (v := 0) hx hb dX8_regular_64 rfl ?_
        refine z_iastC (j := 0) hx hb hq hK hP hS (pA_107 hW) dX8_regular_65 rfl (by decide) h (fun S_4 H locs hP hS h => ?_)
        refine lv_iconst (v := 1) hx hb dX8_regular_66 rfl ?_
        refine lv_istore (lv' := [(4, .int 1), (0, .ref (q 101)), (1, .int x1), (2, .int x2), (3, .int x3)]) hx hb dX8_regular_67 hl (by decide) rfl (fun ls hl => ?_)
        exact L69 zF x1 x2 x3 1 _ _ _ ls hP hS (lv_sub hl [1, 2, 3, 4, 0] rfl) h
      · refine lv_iload_n hx hb dX8_regular_34 rfl (lv_at hl 3 rfl) ?_
        refine lv_iconst (v := 4) hx hb dX8_regular_35 rfl ?_
        refine lv_iload hx hb dX8_regular_36 (lv_at hl 4 rfl) ?_
        refine lv_imul hx hb dX8_regular_38 ?_
        refine lv_ishr hx hb dX8_regular_39 ?_
        refine lv_bipush (v := 15) hx hb dX8_regular_40 rfl ?_
        refine lv_iand hx hb dX8_regular_42 ?_
        refine lv_iload_n hx hb dX8_regular_43 rfl (lv_at hl 1 rfl) ?_
        refine z_icmp_lt (tgt := 49) hx hb dX8_regular_44 (by decide) h (fun h => ?_) (fun h => ?_)
        · refine lv_iinc (v := (x4 + 1)) (lv' := [(4, .int (x4 + 1)), (0, .ref (q 101)), (1, .int x1), (2, .int x2), (3, .int x3)]) hx hb dX8_regular_49 hl (k := 4) rfl rfl (by decide) rfl (fun ls hl => ?_)
          refine lv_goto (tgt := 23) hx hb dX8_regular_52 (by decide) ?_
          exact ih23 x1 x2 x3 (x4 + 1) _ _ _ ls hP hS (lv_sub hl [1, 2, 3, 4, 0] rfl) h
        · refine lv_iconst (v := 0) hx hb dX8_regular_47 rfl ?_
          exact z_zretC hx hb hlocks hP hS hQ hr dX8_regular_48 (Or.inl rfl) h
  refine lv_aload_n hx hb dX8_regular_0 rfl (lv_at hl 0 rfl) ?_
  refine lv_iconst (v := 0) hx hb dX8_regular_1 rfl ?_
  refine z_puti hx hb hU uU_X8 tyX8 tyX8_ok nmX8 hown hq hK hP hS (p_101 hW) rfl rfl 0 (by decide) (hU _ uF_X8_34) rfl rfl rfl (Nat.le_of_ble_eq_true rfl) rfl dX8_regular_2 h (fun S_5 H locs hP hS h => ?_)
  refine lv_aload_n hx hb dX8_regular_5 rfl (lv_at hl 0 rfl) ?_
  refine z_callV_v hx hb hml hown hU hK hN hP hS 0 (p_101 hW) rfl rfl (zU_V uL_X8_49 uI_X8_begins uS_X8_begins uN_X8 uC_X8_begins) yd_X8_begins ⟨rfl, rfl⟩ ⟨Nat.le_of_ble_eq_true rfl, Nat.le_of_ble_eq_true rfl⟩ (As := []) (fun o h9 => ctX8_begins hq hW h9) rfl hl.1 rfl (Nat.le_of_ble_eq_true rfl) dX8_regular_6 ⟨Nat.zero_le _, Nat.zero_le _⟩ h (fun S_6 H locs hP hS h => ?_)
  refine lv_aload_n hx hb dX8_regular_9 rfl (lv_at hl 0 rfl) ?_
  refine lv_iload_n hx hb dX8_regular_10 rfl (lv_at hl 1 rfl) ?_
  refine lv_iload_n hx hb dX8_regular_11 rfl (lv_at hl 2 rfl) ?_
  refine z_callV_i hx hb hml hown hU hK hN hP hS 2 (p_101 hW) rfl rfl (zU_V uL_X8_181 uI_X8_isRegular uS_X8_isRegular uN_X8 uC_X8_isRegular) yd_X8_isRegular ⟨rfl, rfl⟩ ⟨Nat.le_of_ble_eq_true rfl, Nat.le_of_ble_eq_true rfl⟩ (As := [.int a1, .int a2]) (fun o h9 => ctX8_isRegular hq hW h9) rfl hl.1 rfl (Nat.le_of_ble_eq_true rfl) dX8_regular_12 ⟨Nat.zero_le _, Nat.zero_le _⟩ h (fun r_8 S_7 H locs hP hS h => ?_)
  refine z_if_ne (tgt := 20) hx hb dX8_regular_15 (by decide) h (fun h => ?_) (fun h => ?_)
  · refine lv_iconst (v := 1) hx hb dX8_regular_20 rfl ?_
    refine lv_istore (lv' := [(4, .int 1), (0, .ref (q 101)), (1, .int a1), (2, .int a2), (3, .int a3)]) hx hb dX8_regular_21 hl (by decide) rfl (fun ls hl => ?_)
    exact L23 zF a1 a2 a3 1 _ _ _ ls hP hS (lv_sub hl [1, 2, 3, 4, 0] rfl) h
  · refine lv_iconst (v := 0) hx hb dX8_regular_18 rfl ?_
    exact z_zretC hx hb hlocks hP hS hQ hr dX8_regular_19 (Or.inl rfl) h

def fX8_tries (a1 : Int32) (a2 : Int32) (a3 : Int32) (S : zT) : Option (Int32 × zT) :=
  zbv (fX8_offsets a1 a3 S) fun S_1 =>
  zbv (fX8_laysRow a1 a2 S_1) fun S_2 =>
  zbi (fX8_whyNot S_2) fun r_4 S_3 =>
  (if r_4 = (-1) then some (1, S_3) else some (0, S_3))
abbrev rmX8_tries : Room := { frames := 7, cells := 0, slots := 0, locals := 157 }
theorem yd_X8_tries : yX8_tries.cls = RX8 ∧ yX8_tries.cls ≠ "java/lang/invoke/MethodHandle" ∧ yX8_tries.cls ≠ "java/lang/invoke/VarHandle" ∧ (parseMethodDescriptor yX8_tries.desc).map (fun d => d.parameters.length) = some 3 := by decide +kernel
set_option maxRecDepth 100000 in
set_option maxHeartbeats 4000000 in
theorem ctX8_tries {l : Launch} {dC : Nat → ClassId} {dI : Nat → Nat → Nat} {cI : ClassId × ClassId} {cW : List zSh} {q : Nat → Nat} (hq : zI cW q) (hW : zIs cI cW) {a1 : Int32} {a2 : Int32} {a3 : Int32} {S : zT} {o : Int32 × zT} (h : fX8_tries a1 a2 a3 S = some o) : zCi l dC dI cI cW q yX8_tries (Cond.code yX8_tries cX8_tries 4 (some .boolean) :: zU) rmX8_tries [.ref (q 101), .int a1, .int a2, .int a3] S o := by
  refine zMet_i (lv := [(0, .ref (q 101)), (1, .int a1), (2, .int a2), (3, .int a3)]) (by decide) (Nat.le_of_ble_eq_true rfl) rfl ?_
  intro p e s m args below meth c Q hx hb hml hr hU hown hlocks hK hN hP hS ls hl hQ
  replace hown : s.vm.findClass RX8 = some m.cls := hown
  unfold fX8_tries at h
  refine lv_aload_n hx hb dX8_tries_0 rfl (lv_at hl 0 rfl) ?_
  refine lv_iload_n hx hb dX8_tries_1 rfl (lv_at hl 1 rfl) ?_
  refine lv_iload_n hx hb dX8_tries_2 rfl (lv_at hl 3 rfl) ?_
  refine z_callV_v hx hb hml hown hU hK hN hP hS 2 (p_101 hW) rfl rfl (zU_V uL_X8_187 uI_X8_offsets uS_X8_offsets uN_X8 uC_X8_offsets) yd_X8_offsets ⟨rfl, rfl⟩ ⟨Nat.le_of_ble_eq_true rfl, Nat.le_of_ble_eq_true rfl⟩ (As := [.int a1, .int a3]) (fun o h9 => ctX8_offsets hq hW h9) rfl hl.1 rfl (Nat.le_of_ble_eq_true rfl) dX8_tries_3 ⟨Nat.zero_le _, Nat.zero_le _⟩ h (fun S_1 H locs hP hS h => ?_)
  refine lv_aload_n hx hb dX8_tries_6 rfl (lv_at hl 0 rfl) ?_
  refine lv_iload_n hx hb dX8_tries_7 rfl (lv_at hl 1 rfl) ?_
  refine lv_iload_n hx hb dX8_tries_8 rfl (lv_at hl 2 rfl) ?_
  refine z_callV_v hx hb hml hown hU hK hN hP hS 2 (p_101 hW) rfl rfl (zU_V uL_X8_184 uI_X8_laysRow uS_X8_laysRow uN_X8 uC_X8_laysRow) yd_X8_laysRow ⟨rfl, rfl⟩ ⟨Nat.le_of_ble_eq_true rfl, Nat.le_of_ble_eq_true rfl⟩ (As := [.int a1, .int a2]) (fun o h9 => ctX8_laysRow hq hW h9) rfl hl.1 rfl (Nat.le_of_ble_eq_true rfl) dX8_tries_9 ⟨Nat.zero_le _, Nat.zero_le _⟩ h (fun S_2 H locs hP hS h => ?_)
  refine lv_aload_n hx hb dX8_tries_12 rfl (lv_at hl 0 rfl) ?_
  refine z_callV_i hx hb hml hown hU hK hN hP hS 0 (p_101 hW) rfl rfl (zU_V uL_X8_143 uI_X8_whyNot uS_X8_whyNot uN_X8 uC_X8_whyNot) yd_X8_whyNot ⟨rfl, rfl⟩ ⟨Nat.le_of_ble_eq_true rfl, Nat.le_of_ble_eq_true rfl⟩ (As := []) (fun o h9 => ctX8_whyNot hq hW h9) rfl hl.1 rfl (Nat.le_of_ble_eq_true rfl) dX8_tries_13 ⟨Nat.zero_le _, Nat.zero_le _⟩ h (fun r_4 S_3 H locs hP hS h => ?_)
  refine lv_iconst (v := (-1)) hx hb dX8_tries_16 rfl ?_
  refine z_icmp_ne (tgt := 24) hx hb dX8_tries_17 (by decide) h (fun h => ?_) (fun h => ?_)
  · refine lv_iconst (v := 0) hx hb dX8_tries_24 rfl ?_
    exact z_zretC hx hb hlocks hP hS hQ hr dX8_tries_25 (Or.inl rfl) h
  · refine lv_iconst (v := 1) hx hb dX8_tries_20 rfl ?_
    refine lv_goto (tgt := 25) hx hb dX8_tries_21 (by decide) ?_
    exact z_zretC hx hb hlocks hP hS hQ hr dX8_tries_25 (Or.inr rfl) h

def fX8_manyOf_42 (k19 : Int32 → Int32 → Int32 → Int32 → Int32 → zT → Option (Int32 × zT)) (x1 : Int32) (x2 : Int32) (x3 : Int32) (x4 : Int32) (x5 : Int32) (S : zT) : Option (Int32 × zT) :=
  k19 x1 x2 x3 x4 (x5 + 1) S
def fX8_manyOf_19 (rec : Int32 → Int32 → Int32 → Int32 → Int32 → zT → Option (Int32 × zT)) (x1 : Int32) (x2 : Int32) (x3 : Int32) (x4 : Int32) (x5 : Int32) (S : zT) : Option (Int32 × zT) :=
  (if x3 ≤ x5 then some (x4, S) else zbi (fX8_tries x1 x2 x5 S) fun r_2 S_1 =>
  (if r_2 = 0 then (fX8_manyOf_42 rec) x1 x2 x3 x4 x5 S_1 else (fX8_manyOf_42 rec) x1 x2 x3 (x4 + 1) x5 S_1))
def fX8_manyOf (a1 : Int32) (a2 : Int32) (S : zT) : Option (Int32 × zT) :=
  zbi (fX8_rows a1 a2 (S.1 102 0) S) fun r_4 S_3 =>
  (zfix (fun _ _ _ _ _ _ => none) fX8_manyOf_19 zF) a1 a2 r_4 0 0 S_3
abbrev rmX8_manyOf : Room := { frames := 8, cells := 0, slots := 0, locals := 180 }
theorem yd_X8_manyOf : yX8_manyOf.cls = RX8 ∧ yX8_manyOf.cls ≠ "java/lang/invoke/MethodHandle" ∧ yX8_manyOf.cls ≠ "java/lang/invoke/VarHandle" ∧ (parseMethodDescriptor yX8_manyOf.desc).map (fun d => d.parameters.length) = some 2 := by decide +kernel
set_option maxRecDepth 100000 in
set_option maxHeartbeats 4000000 in
theorem ctX8_manyOf {l : Launch} {dC : Nat → ClassId} {dI : Nat → Nat → Nat} {cI : ClassId × ClassId} {cW : List zSh} {q : Nat → Nat} (hq : zI cW q) (hW : zIs cI cW) {a1 : Int32} {a2 : Int32} {S : zT} {o : Int32 × zT} (h : fX8_manyOf a1 a2 S = some o) : zCi l dC dI cI cW q yX8_manyOf (Cond.code yX8_manyOf cX8_manyOf 6 (some .int) :: zU) rmX8_manyOf [.ref (q 101), .int a1, .int a2] S o := by
  refine zMet_i (lv := [(0, .ref (q 101)), (1, .int a1), (2, .int a2)]) (by decide) (Nat.le_of_ble_eq_true rfl) rfl ?_
  intro p e s m args below meth c Q hx hb hml hr hU hown hlocks hK hN hP hS ls hl hQ
  replace hown : s.vm.findClass RX8 = some m.cls := hown
  unfold fX8_manyOf at h
  have L19 : ∀ (n19 : Nat) (x1 : Int32) (x2 : Int32) (x3 : Int32) (x4 : Int32) (x5 : Int32) (S : zT) (H : Heap) (locs : List Loc) (ls : Array Slot), va_P (dC, dI) vwCl (zWd cI cW q S) H → va_S (zA cW q) s.heap H locs → lv_has ls 6 [(0, .ref (q 101)), (1, .int x1), (2, .int x2), (3, .int x3), (4, .int x4), (5, .int x5)] → (zfix (fun _ _ _ _ _ _ => none) fX8_manyOf_19 n19) x1 x2 x3 x4 x5 S = some o → W p l e rmX8_manyOf s m args below meth c H locs 0 0 Q (F0 m 19 ls []) := by
    intro n19
    induction n19 with
    | zero => intro x1 x2 x3 x4 x5 S H locs ls hP hS hl h; exact zno (show (none : Option (Int32 × zT)) = some o from h)
    | succ n19 ih19 =>
      intro x1 x2 x3 x4 x5 S H locs ls hP hS hl h
      replace h : fX8_manyOf_19 (zfix (fun _ _ _ _ _ _ => none) fX8_manyOf_19 n19) x1 x2 x3 x4 x5 S = some o := h
      unfold fX8_manyOf_19 at h
      have L42 : ∀ (x1 : Int32) (x2 : Int32) (x3 : Int32) (x4 : Int32) (x5 : Int32) (S : zT) (H : Heap) (locs : List Loc) (ls : Array Slot), va_P (dC, dI) vwCl (zWd cI cW q S) H → va_S (zA cW q) s.heap H locs → lv_has ls 6 [(0, .ref (q 101)), (1, .int x1), (2, .int x2), (3, .int x3), (4, .int x4), (5, .int x5)] → (fX8_manyOf_42 (zfix (fun _ _ _ _ _ _ => none) fX8_manyOf_19 n19)) x1 x2 x3 x4 x5 S = some o → W p l e rmX8_manyOf s m args below meth c H locs 0 0 Q (F0 m 42 ls []) := by
        intro x1 x2 x3 x4 x5 S H locs ls hP hS hl h
        unfold fX8_manyOf_42 at h
        refine lv_iinc (v := (x5 + 1)) (lv' := [(5, .int (x5 + 1)), (0, .ref (q 101)), (1, .int x1), (2, .int x2), (3, .int x3), (4, .int x4)]) hx hb dX8_manyOf_42 hl (k := 5) rfl rfl (by decide) rfl (fun ls hl => ?_)
        refine lv_goto (tgt := 19) hx hb dX8_manyOf_45 (by decide) ?_
        exact ih19 x1 x2 x3 x4 (x5 + 1) _ _ _ ls hP hS (lv_sub hl [1, 2, 3, 4, 5, 0] rfl) h
      refine lv_iload hx hb dX8_manyOf_19 (lv_at hl 5 rfl) ?_
      refine lv_iload_n hx hb dX8_manyOf_21 rfl (lv_at hl 3 rfl) ?_
      refine z_icmp_ge (tgt := 48) hx hb dX8_manyOf_22 (by decide) h (fun h => ?_) (fun h => ?_)
      · refine lv_iload hx hb dX8_manyOf_48 (lv_at hl 4 rfl) ?_
        exact z_iret hx hb hlocks hP hS hQ hr dX8_manyOf_50 h
      · refine lv_aload_n hx hb dX8_manyOf_25 rfl (lv_at hl 0 rfl) ?_
        refine lv_iload_n hx hb dX8_manyOf_26 rfl (lv_at hl 1 rfl) ?_
        refine lv_iload_n hx hb dX8_manyOf_27 rfl (lv_at hl 2 rfl) ?_
        refine lv_iload hx hb dX8_manyOf_28 (lv_at hl 5 rfl) ?_
        refine z_callV_i hx hb hml hown hU hK hN hP hS 3 (p_101 hW) rfl rfl (zU_V uL_X8_194 uI_X8_tries uS_X8_tries uN_X8 uC_X8_tries) yd_X8_tries ⟨rfl, rfl⟩ ⟨Nat.le_of_ble_eq_true rfl, Nat.le_of_ble_eq_true rfl⟩ (As := [.int x1, .int x2, .int x5]) (fun o h9 => ctX8_tries hq hW h9) rfl hl.1 rfl (Nat.le_of_ble_eq_true rfl) dX8_manyOf_30 ⟨Nat.zero_le _, Nat.zero_le _⟩ h (fun r_2 S_1 H locs hP hS h => ?_)
        refine z_if_eq (tgt := 42) hx hb dX8_manyOf_33 (by decide) h (fun h => ?_) (fun h => ?_)
        · exact L42 x1 x2 x3 x4 x5 _ _ _ ls hP hS (lv_sub hl [0, 1, 2, 3, 4, 5] rfl) h
        · refine lv_iload hx hb dX8_manyOf_36 (lv_at hl 4 rfl) ?_
          refine lv_iconst (v := 1) hx hb dX8_manyOf_38 rfl ?_
          refine lv_iadd hx hb dX8_manyOf_39 ?_
          refine lv_istore (lv' := [(4, .int (x4 + 1)), (0, .ref (q 101)), (1, .int x1), (2, .int x2), (3, .int x3), (5, .int x5)]) hx hb dX8_manyOf_40 hl (by decide) rfl (fun ls hl => ?_)
          exact L42 x1 x2 x3 (x4 + 1) x5 _ _ _ ls hP hS (lv_sub hl [1, 2, 3, 4, 0, 5] rfl) h
  refine lv_aload_n hx hb dX8_manyOf_0 rfl (lv_at hl 0 rfl) ?_
  refine lv_iload_n hx hb dX8_manyOf_1 rfl (lv_at hl 1 rfl) ?_
  refine lv_iload_n hx hb dX8_manyOf_2 rfl (lv_at hl 2 rfl) ?_
  refine lv_aload_n hx hb dX8_manyOf_3 rfl (lv_at hl 0 rfl) ?_
  refine z_get hx hb hU uU_X8 hown hK hP (p_101 hW) rfl rfl 1 (by decide) (hU _ uF_X8_7) rfl dX8_manyOf_4 ?_
  refine lv_iconst (v := 0) hx hb dX8_manyOf_7 rfl ?_
  refine z_ialdC (j := 0) hx hb hK hP (pA_102 hW) dX8_manyOf_8 rfl (by decide) ?_
  refine z_callV_i hx hb hml hown hU hK hN hP hS 3 (p_101 hW) rfl rfl (zU_V uL_X8_190 uI_X8_rows uS_X8_rows uN_X8 uC_X8_rows) yd_X8_rows ⟨rfl, rfl⟩ ⟨Nat.le_of_ble_eq_true rfl, Nat.le_of_ble_eq_true rfl⟩ (As := [.int a1, .int a2, .int (S.1 102 0)]) (fun o h9 => ctX8_rows hq hW h9) rfl hl.1 rfl (Nat.le_of_ble_eq_true rfl) dX8_manyOf_9 ⟨Nat.zero_le _, Nat.zero_le _⟩ h (fun r_4 S_3 H locs hP hS h => ?_)
  refine lv_istore_n (lv' := [(3, .int r_4), (0, .ref (q 101)), (1, .int a1), (2, .int a2)]) hx hb dX8_manyOf_12 rfl hl (by decide) rfl (fun ls hl => ?_)
  refine lv_iconst (v := 0) hx hb dX8_manyOf_13 rfl ?_
  refine lv_istore (lv' := [(4, .int 0), (3, .int r_4), (0, .ref (q 101)), (1, .int a1), (2, .int a2)]) hx hb dX8_manyOf_14 hl (by decide) rfl (fun ls hl => ?_)
  refine lv_iconst (v := 0) hx hb dX8_manyOf_16 rfl ?_
  refine lv_istore (lv' := [(5, .int 0), (4, .int 0), (3, .int r_4), (0, .ref (q 101)), (1, .int a1), (2, .int a2)]) hx hb dX8_manyOf_17 hl (by decide) rfl (fun ls hl => ?_)
  exact L19 zF a1 a2 r_4 0 0 _ _ _ ls hP hS (lv_sub hl [3, 4, 5, 2, 1, 0] rfl) h

def fX8_many (a1 : Int32) (a2 : Int32) (S : zT) : Option (Int32 × zT) :=
  zlet (zsi S 101 0 0) fun S_1 =>
  zbv (fX8_begins S_1) fun S_2 =>
  zbi (fX8_rows a1 a2 (S_2.1 102 0) S_2) fun r_4 S_3 =>
  (if r_4 = (-1) then some ((-1), S_3) else zbv (fX8_goAside S_3) fun S_5 =>
  zbi (fX8_manyOf a1 a2 S_5) fun r_7 S_6 =>
  zbv (fX8_comeBack S_6) fun S_8 =>
  some (r_7, S_8))
abbrev rmX8_many : Room := { frames := 9, cells := 0, slots := 0, locals := 205 }
theorem yd_X8_many : yX8_many.cls = RX8 ∧ yX8_many.cls ≠ "java/lang/invoke/MethodHandle" ∧ yX8_many.cls ≠ "java/lang/invoke/VarHandle" ∧ (parseMethodDescriptor yX8_many.desc).map (fun d => d.parameters.length) = some 2 := by decide +kernel
set_option maxRecDepth 100000 in
set_option maxHeartbeats 4000000 in
theorem ctX8_many {l : Launch} {dC : Nat → ClassId} {dI : Nat → Nat → Nat} {cI : ClassId × ClassId} {cW : List zSh} {q : Nat → Nat} (hq : zI cW q) (hW : zIs cI cW) {a1 : Int32} {a2 : Int32} {S : zT} {o : Int32 × zT} (h : fX8_many a1 a2 S = some o) : zCi l dC dI cI cW q yX8_many (Cond.code yX8_many cX8_many 4 (some .int) :: zU) rmX8_many [.ref (q 101), .int a1, .int a2] S o := by
  refine zMet_i (lv := [(0, .ref (q 101)), (1, .int a1), (2, .int a2)]) (by decide) (Nat.le_of_ble_eq_true rfl) rfl ?_
  intro p e s m args below meth c Q hx hb hml hr hU hown hlocks hK hN hP hS ls hl hQ
  replace hown : s.vm.findClass RX8 = some m.cls := hown
  unfold fX8_many at h
  refine lv_aload_n hx hb dX8_many_0 rfl (lv_at hl 0 rfl) ?_
  refine lv_iconst (v := 0) hx hb dX8_many_1 rfl ?_
  refine z_puti hx hb hU uU_X8 tyX8 tyX8_ok nmX8 hown hq hK hP hS (p_101 hW) rfl rfl 0 (by decide) (hU _ uF_X8_34) rfl rfl rfl (Nat.le_of_ble_eq_true rfl) rfl dX8_many_2 h (fun S_1 H locs hP hS h => ?_)
  refine lv_aload_n hx hb dX8_many_5 rfl (lv_at hl 0 rfl) ?_
  refine z_callV_v hx hb hml hown hU hK hN hP hS 0 (p_101 hW) rfl rfl (zU_V uL_X8_49 uI_X8_begins uS_X8_begins uN_X8 uC_X8_begins) yd_X8_begins ⟨rfl, rfl⟩ ⟨Nat.le_of_ble_eq_true rfl, Nat.le_of_ble_eq_true rfl⟩ (As := []) (fun o h9 => ctX8_begins hq hW h9) rfl hl.1 rfl (Nat.le_of_ble_eq_true rfl) dX8_many_6 ⟨Nat.zero_le _, Nat.zero_le _⟩ h (fun S_2 H locs hP hS h => ?_)
  refine lv_aload_n hx hb dX8_many_9 rfl (lv_at hl 0 rfl) ?_
  refine lv_iload_n hx hb dX8_many_10 rfl (lv_at hl 1 rfl) ?_
  refine lv_iload_n hx hb dX8_many_11 rfl (lv_at hl 2 rfl) ?_
  refine lv_aload_n hx hb dX8_many_12 rfl (lv_at hl 0 rfl) ?_
  refine z_get hx hb hU uU_X8 hown hK hP (p_101 hW) rfl rfl 1 (by decide) (hU _ uF_X8_7) rfl dX8_many_13 ?_
  refine lv_iconst (v := 0) hx hb dX8_many_16 rfl ?_
  refine z_ialdC (j := 0) hx hb hK hP (pA_102 hW) dX8_many_17 rfl (by decide) ?_
  refine z_callV_i hx hb hml hown hU hK hN hP hS 3 (p_101 hW) rfl rfl (zU_V uL_X8_190 uI_X8_rows uS_X8_rows uN_X8 uC_X8_rows) yd_X8_rows ⟨rfl, rfl⟩ ⟨Nat.le_of_ble_eq_true rfl, Nat.le_of_ble_eq_true rfl⟩ (As := [.int a1, .int a2, .int (S_2.1 102 0)]) (fun o h9 => ctX8_rows hq hW h9) rfl hl.1 rfl (Nat.le_of_ble_eq_true rfl) dX8_many_18 ⟨Nat.zero_le _, Nat.zero_le _⟩ h (fun r_4 S_3 H locs hP hS h => ?_)
  refine lv_iconst (v := (-1)) hx hb dX8_many_21 rfl ?_
  refine z_icmp_ne (tgt := 27) hx hb dX8_many_22 (by decide) h (fun h => ?_) (fun h => ?_)
  · refine lv_aload_n hx hb dX8_many_27 rfl (lv_at hl 0 rfl) ?_
    refine z_callV_v hx hb hml hown hU hK hN hP hS 0 (p_101 hW) rfl rfl (zU_V uL_X8_198 uI_X8_goAside uS_X8_goAside uN_X8 uC_X8_goAside) yd_X8_goAside ⟨rfl, rfl⟩ ⟨Nat.le_of_ble_eq_true rfl, Nat.le_of_ble_eq_true rfl⟩ (As := []) (fun o h9 => ctX8_goAside hq hW h9) rfl hl.1 rfl (Nat.le_of_ble_eq_true rfl) dX8_many_28 ⟨Nat.zero_le _, Nat.zero_le _⟩ h (fun S_5 H locs hP hS h => ?_)
    refine lv_aload_n hx hb dX8_many_31 rfl (lv_at hl 0 rfl) ?_
    refine lv_iload_n hx hb dX8_many_32 rfl (lv_at hl 1 rfl) ?_
    refine lv_iload_n hx hb dX8_many_33 rfl (lv_at hl 2 rfl) ?_
    refine z_callV_i hx hb hml hown hU hK hN hP hS 2 (p_101 hW) rfl rfl (zU_V uL_X8_201 uI_X8_manyOf uS_X8_manyOf uN_X8 uC_X8_manyOf) yd_X8_manyOf ⟨rfl, rfl⟩ ⟨Nat.le_of_ble_eq_true rfl, Nat.le_of_ble_eq_true rfl⟩ (As := [.int a1, .int a2]) (fun o h9 => ctX8_manyOf hq hW h9) rfl hl.1 rfl (Nat.le_of_ble_eq_true rfl) dX8_many_34 ⟨Nat.zero_le _, Nat.zero_le _⟩ h (fun r_7 S_6 H locs hP hS h => ?_)
    refine lv_istore_n (lv' := [(3, .int r_7), (0, .ref (q 101)), (1, .int a1), (2, .int a2)]) hx hb dX8_many_37 rfl hl (by decide) rfl (fun ls hl => ?_)
    refine lv_aload_n hx hb dX8_many_38 rfl (lv_at hl 1 rfl) ?_
    refine z_callV_v hx hb hml hown hU hK hN hP hS 0 (p_101 hW) rfl rfl (zU_V uL_X8_204 uI_X8_comeBack uS_X8_comeBack uN_X8 uC_X8_comeBack) yd_X8_comeBack ⟨rfl, rfl⟩ ⟨Nat.le_of_ble_eq_true rfl, Nat.le_of_ble_eq_true rfl⟩ (As := []) (fun o h9 => ctX8_comeBack hq hW h9) rfl hl.1 rfl (Nat.le_of_ble_eq_true rfl) dX8_many_39 ⟨Nat.zero_le _, Nat.zero_le _⟩ h (fun S_8 H locs hP hS h => ?_)
    refine lv_iload_n hx hb dX8_many_42 rfl (lv_at hl 0 rfl) ?_
    exact z_iret hx hb hlocks hP hS hQ hr dX8_many_43 h
  · refine lv_iconst (v := (-1)) hx hb dX8_many_25 rfl ?_
    exact z_iret hx hb hlocks hP hS hQ hr dX8_many_26 h

def fX8_pick_97 (x1 : Int32) (x2 : Int32) (x6 : Int32) (S : zT) : Option (Int32 × zT) :=
  zbv (fX8_comeBack S) fun S_1 =>
  (if x6 = (-1) then some (0, S_1) else zbv (fX8_keep S_1) fun S_2 =>
  zbv (fX8_offsets x1 x6 S_2) fun S_3 =>
  zbv (fX8_laysRow x1 x2 S_3) fun S_4 =>
  some (1, S_4))
def fX8_pick_91 (k48 : Int32 → Int32 → Int32 → Int32 → Int32 → Int32 → Int32 → zT → Option (Int32 × zT)) (x1 : Int32) (x2 : Int32) (x3 : Int32) (x4 : Int32) (x5 : Int32) (x6 : Int32) (x7 : Int32) (S : zT) : Option (Int32 × zT) :=
  k48 x1 x2 x3 x4 x5 x6 (x7 + 1) S
def fX8_pick_85 (k91 : Int32 → Int32 → Int32 → Int32 → Int32 → Int32 → Int32 → zT → Option (Int32 × zT)) (x1 : Int32) (x2 : Int32) (x3 : Int32) (x4 : Int32) (x5 : Int32) (x6 : Int32) (x7 : Int32) (S : zT) : Option (Int32 × zT) :=
  k91 x1 x2 x3 x4 (x5 + 1) x6 x7 S
def fX8_pick_48 (rec : Int32 → Int32 → Int32 → Int32 → Int32 → Int32 → Int32 → zT → Option (Int32 × zT)) (x1 : Int32) (x2 : Int32) (x3 : Int32) (x4 : Int32) (x5 : Int32) (x6 : Int32) (x7 : Int32) (S : zT) : Option (Int32 × zT) :=
  (if x4 ≤ x7 then fX8_pick_97 x1 x2 x6 S else (if x6 = (-1) then zbi (fX8_tries x1 x2 x7 S) fun r_6 S_5 =>
  (if r_6 = 0 then (fX8_pick_91 rec) x1 x2 x3 x4 x5 x6 x7 S_5 else (if x5 = x3 then (fX8_pick_85 (fX8_pick_91 rec)) x1 x2 x3 x4 x5 x7 x7 S_5 else (fX8_pick_85 (fX8_pick_91 rec)) x1 x2 x3 x4 x5 x6 x7 S_5)) else fX8_pick_97 x1 x2 x6 S))
def fX8_pick (a1 : Int32) (a2 : Int32) (a3 : Int32) (S : zT) : Option (Int32 × zT) :=
  zlet (zsi S 101 0 0) fun S_7 =>
  zbv (fX8_begins S_7) fun S_8 =>
  zbi (fX8_rows a1 a2 (S_8.1 102 0) S_8) fun r_10 S_9 =>
  (if r_10 = (-1) then some (0, S_9) else (if 0 ≤ a3 then zbv (fX8_goAside S_9) fun S_11 =>
  (zfix (fun _ _ _ _ _ _ _ _ => none) fX8_pick_48 zF) a1 a2 a3 r_10 0 (-1) 0 S_11 else some (0, S_9)))
abbrev rmX8_pick : Room := { frames := 8, cells := 0, slots := 0, locals := 180 }
theorem yd_X8_pick : yX8_pick.cls = RX8 ∧ yX8_pick.cls ≠ "java/lang/invoke/MethodHandle" ∧ yX8_pick.cls ≠ "java/lang/invoke/VarHandle" ∧ (parseMethodDescriptor yX8_pick.desc).map (fun d => d.parameters.length) = some 3 := by decide +kernel
set_option maxRecDepth 100000 in
set_option maxHeartbeats 4000000 in
theorem ctX8_pick {l : Launch} {dC : Nat → ClassId} {dI : Nat → Nat → Nat} {cI : ClassId × ClassId} {cW : List zSh} {q : Nat → Nat} (hq : zI cW q) (hW : zIs cI cW) {a1 : Int32} {a2 : Int32} {a3 : Int32} {S : zT} {o : Int32 × zT} (h : fX8_pick a1 a2 a3 S = some o) : zCi l dC dI cI cW q yX8_pick (Cond.code yX8_pick cX8_pick 8 (some .boolean) :: zU) rmX8_pick [.ref (q 101), .int a1, .int a2, .int a3] S o := by
  refine zMet_i (lv := [(0, .ref (q 101)), (1, .int a1), (2, .int a2), (3, .int a3)]) (by decide) (Nat.le_of_ble_eq_true rfl) rfl ?_
  intro p e s m args below meth c Q hx hb hml hr hU hown hlocks hK hN hP hS ls hl hQ
  replace hown : s.vm.findClass RX8 = some m.cls := hown
  unfold fX8_pick at h
  have L48 : ∀ (n48 : Nat) (x1 : Int32) (x2 : Int32) (x3 : Int32) (x4 : Int32) (x5 : Int32) (x6 : Int32) (x7 : Int32) (S : zT) (H : Heap) (locs : List Loc) (ls : Array Slot), va_P (dC, dI) vwCl (zWd cI cW q S) H → va_S (zA cW q) s.heap H locs → lv_has ls 8 [(0, .ref (q 101)), (1, .int x1), (2, .int x2), (3, .int x3), (4, .int x4), (5, .int x5), (6, .int x6), (7, .int x7)] → (zfix (fun _ _ _ _ _ _ _ _ => none) fX8_pick_48 n48) x1 x2 x3 x4 x5 x6 x7 S = some o → W p l e rmX8_pick s m args below meth c H locs 0 0 Q (F0 m 48 ls []) := by
    intro n48
    induction n48 with
    | zero => intro x1 x2 x3 x4 x5 x6 x7 S H locs ls hP hS hl h; exact zno (show (none : Option (Int32 × zT)) = some o from h)
    | succ n48 ih48 =>
      intro x1 x2 x3 x4 x5 x6 x7 S H locs ls hP hS hl h
      replace h : fX8_pick_48 (zfix (fun _ _ _ _ _ _ _ _ => none) fX8_pick_48 n48) x1 x2 x3 x4 x5 x6 x7 S = some o := h
      unfold fX8_pick_48 at h
      have L97 : ∀ (x1 : Int32) (x2 : Int32) (x6 : Int32) (S : zT) (H : Heap) (locs : List Loc) (ls : Array Slot), va_P (dC, dI) vwCl (zWd cI cW q S) H → va_S (zA cW q) s.heap H locs → lv_has ls 8 [(0, .ref (q 101)), (1, .int x1), (2, .int x2), (6, .int x6)] → fX8_pick_97 x1 x2 x6 S = some o → W p l e rmX8_pick s m args below meth c H locs 0 0 Q (F0 m 97 ls []) := by
        intro x1 x2 x6 S H locs ls hP hS hl h
        unfold fX8_pick_97 at h
        refine lv_aload_n hx hb dX8_pick_97 rfl (lv_at hl 0 rfl) ?_
        refine z_callV_v hx hb hml hown hU hK hN hP hS 0 (p_101 hW) rfl rfl (zU_V uL_X8_204 uI_X8_comeBack uS_X8_comeBack uN_X8 uC_X8_comeBack) yd_X8_comeBack ⟨rfl, rfl⟩ ⟨Nat.le_of_ble_eq_true rfl, Nat.le_of_ble_eq_true rfl⟩ (As := []) (fun o h9 => ctX8_comeBack hq hW h9) rfl hl.1 rfl (Nat.le_of_ble_eq_true rfl) dX8_pick_98 ⟨Nat.zero_le _, Nat.zero_le _⟩ h (fun S_1 H locs hP hS h => ?_)
        refine lv_iload hx hb dX8_pick_101 (lv_at hl 3 rfl) ?_
        refine lv_iconst (v := (-1)) hx hb dX8_pick_103 rfl ?_
        refine z_icmp_ne (tgt := 109) hx hb dX8_pick_104 (by decide) h (fun h => ?_) (fun h => ?_)
        · refine lv_aload_n hx hb dX8_pick_109 rfl (lv_at hl 0 rfl) ?_
          refine z_callV_v hx hb hml hown hU hK hN hP hS 0 (p_101 hW) rfl rfl (zU_V uL_X8_52 uI_X8_keep uS_X8_keep uN_X8 uC_X8_keep) yd_X8_keep ⟨rfl, rfl⟩ ⟨Nat.le_of_ble_eq_true rfl, Nat.le_of_ble_eq_true rfl⟩ (As := []) (fun o h9 => ctX8_keep hq hW h9) rfl hl.1 rfl (Nat.le_of_ble_eq_true rfl) dX8_pick_110 ⟨Nat.zero_le _, Nat.zero_le _⟩ h (fun S_2 H locs hP hS h => ?_)
          refine lv_aload_n hx hb dX8_pick_113 rfl (lv_at hl 0 rfl) ?_
          refine lv_iload_n hx hb dX8_pick_114 rfl (lv_at hl 1 rfl) ?_
          refine lv_iload hx hb dX8_pick_115 (lv_at hl 3 rfl) ?_
          refine z_callV_v hx hb hml hown hU hK hN hP hS 2 (p_101 hW) rfl rfl (zU_V uL_X8_187 uI_X8_offsets uS_X8_offsets uN_X8 uC_X8_offsets) yd_X8_offsets ⟨rfl, rfl⟩ ⟨Nat.le_of_ble_eq_true rfl, Nat.le_of_ble_eq_true rfl⟩ (As := [.int x1, .int x6]) (fun o h9 => ctX8_offsets hq hW h9) rfl hl.1 rfl (Nat.le_of_ble_eq_true rfl) dX8_pick_117 ⟨Nat.zero_le _, Nat.zero_le _⟩ h (fun S_3 H locs hP hS h => ?_)
          refine lv_aload_n hx hb dX8_pick_120 rfl (lv_at hl 0 rfl) ?_
          refine lv_iload_n hx hb dX8_pick_121 rfl (lv_at hl 1 rfl) ?_
          refine lv_iload_n hx hb dX8_pick_122 rfl (lv_at hl 2 rfl) ?_
          refine z_callV_v hx hb hml hown hU hK hN hP hS 2 (p_101 hW) rfl rfl (zU_V uL_X8_184 uI_X8_laysRow uS_X8_laysRow uN_X8 uC_X8_laysRow) yd_X8_laysRow ⟨rfl, rfl⟩ ⟨Nat.le_of_ble_eq_true rfl, Nat.le_of_ble_eq_true rfl⟩ (As := [.int x1, .int x2]) (fun o h9 => ctX8_laysRow hq hW h9) rfl hl.1 rfl (Nat.le_of_ble_eq_true rfl) dX8_pick_123 ⟨Nat.zero_le _, Nat.zero_le _⟩ h (fun S_4 H locs hP hS h => ?_)
          refine lv_iconst (v := 1) hx hb dX8_pick_126 rfl ?_
          exact z_zretC hx hb hlocks hP hS hQ hr dX8_pick_127 (Or.inr rfl) h
        · refine lv_iconst (v := 0) hx hb dX8_pick_107 rfl ?_
          exact z_zretC hx hb hlocks hP hS hQ hr dX8_pick_108 (Or.inl rfl) h
      have L91 : ∀ (x1 : Int32) (x2 : Int32) (x3 : Int32) (x4 : Int32) (x5 : Int32) (x6 : Int32) (x7 : Int32) (S : zT) (H : Heap) (locs : List Loc) (ls : Array Slot), va_P (dC, dI) vwCl (zWd cI cW q S) H → va_S (zA cW q) s.heap H locs → lv_has ls 8 [(0, .ref (q 101)), (1, .int x1), (2, .int x2), (3, .int x3), (4, .int x4), (5, .int x5), (6, .int x6), (7, .int x7)] → (fX8_pick_91 (zfix (fun _ _ _ _ _ _ _ _ => none) fX8_pick_48 n48)) x1 x2 x3 x4 x5 x6 x7 S = some o → W p l e rmX8_pick s m args below meth c H locs 0 0 Q (F0 m 91 ls []) := by
        intro x1 x2 x3 x4 x5 x6 x7 S H locs ls hP hS hl h
        unfold fX8_pick_91 at h
        refine lv_iinc (v := (x7 + 1)) (lv' := [(7, .int (x7 + 1)), (0, .ref (q 101)), (1, .int x1), (2, .int x2), (3, .int x3), (4, .int x4), (5, .int x5), (6, .int x6)]) hx hb dX8_pick_91 hl (k := 7) rfl rfl (by decide) rfl (fun ls hl => ?_)
        refine lv_goto (tgt := 48) hx hb dX8_pick_94 (by decide) ?_
        exact ih48 x1 x2 x3 x4 x5 x6 (x7 + 1) _ _ _ ls hP hS (lv_sub hl [1, 2, 3, 4, 5, 6, 7, 0] rfl) h
      have L85 : ∀ (x1 : Int32) (x2 : Int32) (x3 : Int32) (x4 : Int32) (x5 : Int32) (x6 : Int32) (x7 : Int32) (S : zT) (H : Heap) (locs : List Loc) (ls : Array Slot), va_P (dC, dI) vwCl (zWd cI cW q S) H → va_S (zA cW q) s.heap H locs → lv_has ls 8 [(0, .ref (q 101)), (1, .int x1), (2, .int x2), (3, .int x3), (4, .int x4), (5, .int x5), (6, .int x6), (7, .int x7)] → (fX8_pick_85 (fX8_pick_91 (zfix (fun _ _ _ _ _ _ _ _ => none) fX8_pick_48 n48))) x1 x2 x3 x4 x5 x6 x7 S = some o → W p l e rmX8_pick s m args below meth c H locs 0 0 Q (F0 m 85 ls []) := by
        intro x1 x2 x3 x4 x5 x6 x7 S H locs ls hP hS hl h
        unfold fX8_pick_85 at h
        refine lv_iload hx hb dX8_pick_85 (lv_at hl 5 rfl) ?_
        refine lv_iconst (v := 1) hx hb dX8_pick_87 rfl ?_
        refine lv_iadd hx hb dX8_pick_88 ?_
        refine lv_istore (lv' := [(5, .int (x5 + 1)), (0, .ref (q 101)), (1, .int x1), (2, .int x2), (3, .int x3), (4, .int x4), (6, .int x6), (7, .int x7)]) hx hb dX8_pick_89 hl (by decide) rfl (fun ls hl => ?_)
        exact L91 x1 x2 x3 x4 (x5 + 1) x6 x7 _ _ _ ls hP hS (lv_sub hl [1, 2, 3, 4, 5, 0, 6, 7] rfl) h
      refine lv_iload hx hb dX8_pick_48 (lv_at hl 7 rfl) ?_
      refine lv_iload hx hb dX8_pick_50 (lv_at hl 4 rfl) ?_
      refine z_icmp_ge (tgt := 97) hx hb dX8_pick_52 (by decide) h (fun h => ?_) (fun h => ?_)
      · exact L97 x1 x2 x6 _ _ _ ls hP hS (lv_sub hl [0, 1, 2, 6] rfl) h
      · refine lv_iload hx hb dX8_pick_55 (lv_at hl 6 rfl) ?_
        refine lv_iconst (v := (-1)) hx hb dX8_pick_57 rfl ?_
        refine z_icmp_ne (tgt := 97) hx hb dX8_pick_58 (by decide) h (fun h => ?_) (fun h => ?_)
        · exact L97 x1 x2 x6 _ _ _ ls hP hS (lv_sub hl [0, 1, 2, 6] rfl) h
        · refine lv_aload_n hx hb dX8_pick_61 rfl (lv_at hl 0 rfl) ?_
          refine lv_iload_n hx hb dX8_pick_62 rfl (lv_at hl 1 rfl) ?_
          refine lv_iload_n hx hb dX8_pick_63 rfl (lv_at hl 2 rfl) ?_
          refine lv_iload hx hb dX8_pick_64 (lv_at hl 7 rfl) ?_
          refine z_callV_i hx hb hml hown hU hK hN hP hS 3 (p_101 hW) rfl rfl (zU_V uL_X8_194 uI_X8_tries uS_X8_tries uN_X8 uC_X8_tries) yd_X8_tries ⟨rfl, rfl⟩ ⟨Nat.le_of_ble_eq_true rfl, Nat.le_of_ble_eq_true rfl⟩ (As := [.int x1, .int x2, .int x7]) (fun o h9 => ctX8_tries hq hW h9) rfl hl.1 rfl (Nat.le_of_ble_eq_true rfl) dX8_pick_66 ⟨Nat.zero_le _, Nat.zero_le _⟩ h (fun r_6 S_5 H locs hP hS h => ?_)
          refine z_if_ne (tgt := 75) hx hb dX8_pick_69 (by decide) h (fun h => ?_) (fun h => ?_)
          · refine lv_iload hx hb dX8_pick_75 (lv_at hl 5 rfl) ?_
            refine lv_iload_n hx hb dX8_pick_77 rfl (lv_at hl 3 rfl) ?_
            refine z_icmp_ne (tgt := 85) hx hb dX8_pick_78 (by decide) h (fun h => ?_) (fun h => ?_)
            · exact L85 x1 x2 x3 x4 x5 x6 x7 _ _ _ ls hP hS (lv_sub hl [0, 1, 2, 3, 4, 5, 6, 7] rfl) h
            · refine lv_iload hx hb dX8_pick_81 (lv_at hl 7 rfl) ?_
              refine lv_istore (lv' := [(6, .int x7), (0, .ref (q 101)), (1, .int x1), (2, .int x2), (3, .int x3), (4, .int x4), (5, .int x5), (7, .int x7)]) hx hb dX8_pick_83 hl (by decide) rfl (fun ls hl => ?_)
              exact L85 x1 x2 x3 x4 x5 x7 x7 _ _ _ ls hP hS (lv_sub hl [1, 2, 3, 4, 5, 6, 0, 7] rfl) h
          · refine lv_goto (tgt := 91) hx hb dX8_pick_72 (by decide) ?_
            exact L91 x1 x2 x3 x4 x5 x6 x7 _ _ _ ls hP hS (lv_sub hl [0, 1, 2, 3, 4, 5, 6, 7] rfl) h
  refine lv_aload_n hx hb dX8_pick_0 rfl (lv_at hl 0 rfl) ?_
  refine lv_iconst (v := 0) hx hb dX8_pick_1 rfl ?_
  refine z_puti hx hb hU uU_X8 tyX8 tyX8_ok nmX8 hown hq hK hP hS (p_101 hW) rfl rfl 0 (by decide) (hU _ uF_X8_34) rfl rfl rfl (Nat.le_of_ble_eq_true rfl) rfl dX8_pick_2 h (fun S_7 H locs hP hS h => ?_)
  refine lv_aload_n hx hb dX8_pick_5 rfl (lv_at hl 0 rfl) ?_
  refine z_callV_v hx hb hml hown hU hK hN hP hS 0 (p_101 hW) rfl rfl (zU_V uL_X8_49 uI_X8_begins uS_X8_begins uN_X8 uC_X8_begins) yd_X8_begins ⟨rfl, rfl⟩ ⟨Nat.le_of_ble_eq_true rfl, Nat.le_of_ble_eq_true rfl⟩ (As := []) (fun o h9 => ctX8_begins hq hW h9) rfl hl.1 rfl (Nat.le_of_ble_eq_true rfl) dX8_pick_6 ⟨Nat.zero_le _, Nat.zero_le _⟩ h (fun S_8 H locs hP hS h => ?_)
  refine lv_aload_n hx hb dX8_pick_9 rfl (lv_at hl 0 rfl) ?_
  refine lv_iload_n hx hb dX8_pick_10 rfl (lv_at hl 1 rfl) ?_
  refine lv_iload_n hx hb dX8_pick_11 rfl (lv_at hl 2 rfl) ?_
  refine lv_aload_n hx hb dX8_pick_12 rfl (lv_at hl 0 rfl) ?_
  refine z_get hx hb hU uU_X8 hown hK hP (p_101 hW) rfl rfl 1 (by decide) (hU _ uF_X8_7) rfl dX8_pick_13 ?_
  refine lv_iconst (v := 0) hx hb dX8_pick_16 rfl ?_
  refine z_ialdC (j := 0) hx hb hK hP (pA_102 hW) dX8_pick_17 rfl (by decide) ?_
  refine z_callV_i hx hb hml hown hU hK hN hP hS 3 (p_101 hW) rfl rfl (zU_V uL_X8_190 uI_X8_rows uS_X8_rows uN_X8 uC_X8_rows) yd_X8_rows ⟨rfl, rfl⟩ ⟨Nat.le_of_ble_eq_true rfl, Nat.le_of_ble_eq_true rfl⟩ (As := [.int a1, .int a2, .int (S_8.1 102 0)]) (fun o h9 => ctX8_rows hq hW h9) rfl hl.1 rfl (Nat.le_of_ble_eq_true rfl) dX8_pick_18 ⟨Nat.zero_le _, Nat.zero_le _⟩ h (fun r_10 S_9 H locs hP hS h => ?_)
  refine lv_istore (lv' := [(4, .int r_10), (0, .ref (q 101)), (1, .int a1), (2, .int a2), (3, .int a3)]) hx hb dX8_pick_21 hl (by decide) rfl (fun ls hl => ?_)
  refine lv_iload hx hb dX8_pick_23 (lv_at hl 0 rfl) ?_
  refine lv_iconst (v := (-1)) hx hb dX8_pick_25 rfl ?_
  refine z_icmp_eq (tgt := 33) hx hb dX8_pick_26 (by decide) h (fun h => ?_) (fun h => ?_)
  · refine lv_iconst (v := 0) hx hb dX8_pick_33 rfl ?_
    exact z_zretC hx hb hlocks hP hS hQ hr dX8_pick_34 (Or.inl rfl) h
  · refine lv_iload_n hx hb dX8_pick_29 rfl (lv_at hl 4 rfl) ?_
    refine z_if_ge (tgt := 35) hx hb dX8_pick_30 (by decide) h (fun h => ?_) (fun h => ?_)
    · refine lv_aload_n hx hb dX8_pick_35 rfl (lv_at hl 1 rfl) ?_
      refine z_callV_v hx hb hml hown hU hK hN hP hS 0 (p_101 hW) rfl rfl (zU_V uL_X8_198 uI_X8_goAside uS_X8_goAside uN_X8 uC_X8_goAside) yd_X8_goAside ⟨rfl, rfl⟩ ⟨Nat.le_of_ble_eq_true rfl, Nat.le_of_ble_eq_true rfl⟩ (As := []) (fun o h9 => ctX8_goAside hq hW h9) rfl hl.1 rfl (Nat.le_of_ble_eq_true rfl) dX8_pick_36 ⟨Nat.zero_le _, Nat.zero_le _⟩ h (fun S_11 H locs hP hS h => ?_)
      refine lv_iconst (v := 0) hx hb dX8_pick_39 rfl ?_
      refine lv_istore (lv' := [(5, .int 0), (4, .int r_10), (0, .ref (q 101)), (1, .int a1), (2, .int a2), (3, .int a3)]) hx hb dX8_pick_40 hl (by decide) rfl (fun ls hl => ?_)
      refine lv_iconst (v := (-1)) hx hb dX8_pick_42 rfl ?_
      refine lv_istore (lv' := [(6, .int (-1)), (5, .int 0), (4, .int r_10), (0, .ref (q 101)), (1, .int a1), (2, .int a2), (3, .int a3)]) hx hb dX8_pick_43 hl (by decide) rfl (fun ls hl => ?_)
      refine lv_iconst (v := 0) hx hb dX8_pick_45 rfl ?_
      refine lv_istore (lv' := [(7, .int 0), (6, .int (-1)), (5, .int 0), (4, .int r_10), (0, .ref (q 101)), (1, .int a1), (2, .int a2), (3, .int a3)]) hx hb dX8_pick_46 hl (by decide) rfl (fun ls hl => ?_)
      exact L48 zF a1 a2 a3 r_10 0 (-1) 0 _ _ _ ls hP hS (lv_sub hl [4, 5, 6, 7, 3, 2, 1, 0] rfl) h
    · refine lv_iconst (v := 0) hx hb dX8_pick_33 rfl ?_
      exact z_zretC hx hb hlocks hP hS hQ hr dX8_pick_34 (Or.inl rfl) h

def fX8_isAside_38 (k3 : Int32 → zT → Option (Int32 × zT)) (x1 : Int32) (S : zT) : Option (Int32 × zT) :=
  k3 (x1 + 1) S
def fX8_isAside_21 (k38 : Int32 → zT → Option (Int32 × zT)) (x1 : Int32) (S : zT) : Option (Int32 × zT) :=
  if ¬ (x1 < 0 ∨ 48 ≤ x1.toNatClampNeg) then if ¬ (x1 < 0 ∨ 48 ≤ x1.toNatClampNeg) then (if (S.1 102 x1.toNatClampNeg) = (S.1 106 x1.toNatClampNeg) then k38 x1 S else some (0, S)) else none else none
def fX8_isAside_3 (rec : Int32 → zT → Option (Int32 × zT)) (x1 : Int32) (S : zT) : Option (Int32 × zT) :=
  (if 48 ≤ x1 then some (1, S) else (if x1 = 6 then (fX8_isAside_21 (fX8_isAside_38 rec)) x1 S else (if x1 < 23 then (fX8_isAside_38 rec) x1 S else (fX8_isAside_21 (fX8_isAside_38 rec)) x1 S)))
def fX8_isAside (S : zT) : Option (Int32 × zT) :=
  (zfix (fun _ _ => none) fX8_isAside_3 zF) 6 S
abbrev rmX8_isAside : Room := { frames := 0, cells := 0, slots := 0, locals := 0 }
theorem yd_X8_isAside : yX8_isAside.cls = RX8 ∧ yX8_isAside.cls ≠ "java/lang/invoke/MethodHandle" ∧ yX8_isAside.cls ≠ "java/lang/invoke/VarHandle" ∧ (parseMethodDescriptor yX8_isAside.desc).map (fun d => d.parameters.length) = some 0 := by decide +kernel
set_option maxRecDepth 100000 in
set_option maxHeartbeats 4000000 in
theorem ctX8_isAside {l : Launch} {dC : Nat → ClassId} {dI : Nat → Nat → Nat} {cI : ClassId × ClassId} {cW : List zSh} {q : Nat → Nat} (hq : zI cW q) (hW : zIs cI cW) {S : zT} {o : Int32 × zT} (h : fX8_isAside S = some o) : zCi l dC dI cI cW q yX8_isAside (Cond.code yX8_isAside cX8_isAside 2 (some .boolean) :: zU) rmX8_isAside [.ref (q 101)] S o := by
  refine zMet_i (lv := [(0, .ref (q 101))]) (by decide) (Nat.le_of_ble_eq_true rfl) rfl ?_
  intro p e s m args below meth c Q hx hb hml hr hU hown hlocks hK hN hP hS ls hl hQ
  replace hown : s.vm.findClass RX8 = some m.cls := hown
  unfold fX8_isAside at h
  have L3 : ∀ (n3 : Nat) (x1 : Int32) (S : zT) (H : Heap) (locs : List Loc) (ls : Array Slot), va_P (dC, dI) vwCl (zWd cI cW q S) H → va_S (zA cW q) s.heap H locs → lv_has ls 2 [(0, .ref (q 101)), (1, .int x1)] → (zfix (fun _ _ => none) fX8_isAside_3 n3) x1 S = some o → W p l e rmX8_isAside s m args below meth c H locs 0 0 Q (F0 m 3 ls []) := by
    intro n3
    induction n3 with
    | zero => intro x1 S H locs ls hP hS hl h; exact zno (show (none : Option (Int32 × zT)) = some o from h)
    | succ n3 ih3 =>
      intro x1 S H locs ls hP hS hl h
      replace h : fX8_isAside_3 (zfix (fun _ _ => none) fX8_isAside_3 n3) x1 S = some o := h
      unfold fX8_isAside_3 at h
      have L38 : ∀ (x1 : Int32) (S : zT) (H : Heap) (locs : List Loc) (ls : Array Slot), va_P (dC, dI) vwCl (zWd cI cW q S) H → va_S (zA cW q) s.heap H locs → lv_has ls 2 [(0, .ref (q 101)), (1, .int x1)] → (fX8_isAside_38 (zfix (fun _ _ => none) fX8_isAside_3 n3)) x1 S = some o → W p l e rmX8_isAside s m args below meth c H locs 0 0 Q (F0 m 38 ls []) := by
        intro x1 S H locs ls hP hS hl h
        unfold fX8_isAside_38 at h
        refine lv_iinc (v := (x1 + 1)) (lv' := [(1, .int (x1 + 1)), (0, .ref (q 101))]) hx hb dX8_isAside_38 hl (k := 1) rfl rfl (by decide) rfl (fun ls hl => ?_)
        refine lv_goto (tgt := 3) hx hb dX8_isAside_41 (by decide) ?_
        exact ih3 (x1 + 1) _ _ _ ls hP hS (lv_sub hl [1, 0] rfl) h
      have L21 : ∀ (x1 : Int32) (S : zT) (H : Heap) (locs : List Loc) (ls : Array Slot), va_P (dC, dI) vwCl (zWd cI cW q S) H → va_S (zA cW q) s.heap H locs → lv_has ls 2 [(0, .ref (q 101)), (1, .int x1)] → (fX8_isAside_21 (fX8_isAside_38 (zfix (fun _ _ => none) fX8_isAside_3 n3))) x1 S = some o → W p l e rmX8_isAside s m args below meth c H locs 0 0 Q (F0 m 21 ls []) := by
        intro x1 S H locs ls hP hS hl h
        unfold fX8_isAside_21 at h
        refine lv_aload_n hx hb dX8_isAside_21 rfl (lv_at hl 0 rfl) ?_
        refine z_get hx hb hU uU_X8 hown hK hP (p_101 hW) rfl rfl 1 (by decide) (hU _ uF_X8_7) rfl dX8_isAside_22 ?_
        refine lv_iload_n hx hb dX8_isAside_25 rfl (lv_at hl 1 rfl) ?_
        refine z_iald hx hb hK hP (pA_102 hW) dX8_isAside_26 h (fun h => ?_)
        refine lv_aload_n hx hb dX8_isAside_27 rfl (lv_at hl 0 rfl) ?_
        refine z_get hx hb hU uU_X8 hown hK hP (p_101 hW) rfl rfl 18 (by decide) (hU _ uF_X8_22) rfl dX8_isAside_28 ?_
        refine lv_iload_n hx hb dX8_isAside_31 rfl (lv_at hl 1 rfl) ?_
        refine z_iald hx hb hK hP (pA_106 hW) dX8_isAside_32 h (fun h => ?_)
        refine z_icmp_eq (tgt := 38) hx hb dX8_isAside_33 (by decide) h (fun h => ?_) (fun h => ?_)
        · exact L38 x1 _ _ _ ls hP hS (lv_sub hl [0, 1] rfl) h
        · refine lv_iconst (v := 0) hx hb dX8_isAside_36 rfl ?_
          exact z_zretC hx hb hlocks hP hS hQ hr dX8_isAside_37 (Or.inl rfl) h
      refine lv_iload_n hx hb dX8_isAside_3 rfl (lv_at hl 1 rfl) ?_
      refine lv_bipush (v := 48) hx hb dX8_isAside_4 rfl ?_
      refine z_icmp_ge (tgt := 44) hx hb dX8_isAside_6 (by decide) h (fun h => ?_) (fun h => ?_)
      · refine lv_iconst (v := 1) hx hb dX8_isAside_44 rfl ?_
        exact z_zretC hx hb hlocks hP hS hQ hr dX8_isAside_45 (Or.inr rfl) h
      · refine lv_iload_n hx hb dX8_isAside_9 rfl (lv_at hl 1 rfl) ?_
        refine lv_bipush (v := 6) hx hb dX8_isAside_10 rfl ?_
        refine z_icmp_eq (tgt := 21) hx hb dX8_isAside_12 (by decide) h (fun h => ?_) (fun h => ?_)
        · exact L21 x1 _ _ _ ls hP hS (lv_sub hl [0, 1] rfl) h
        · refine lv_iload_n hx hb dX8_isAside_15 rfl (lv_at hl 1 rfl) ?_
          refine lv_bipush (v := 23) hx hb dX8_isAside_16 rfl ?_
          refine z_icmp_lt (tgt := 38) hx hb dX8_isAside_18 (by decide) h (fun h => ?_) (fun h => ?_)
          · exact L38 x1 _ _ _ ls hP hS (lv_sub hl [0, 1] rfl) h
          · exact L21 x1 _ _ _ ls hP hS (lv_sub hl [0, 1] rfl) h
  refine lv_bipush (v := 6) hx hb dX8_isAside_0 rfl ?_
  refine lv_istore_n (lv' := [(1, .int 6), (0, .ref (q 101))]) hx hb dX8_isAside_2 rfl hl (by decide) rfl (fun ls hl => ?_)
  exact L3 zF 6 _ _ _ ls hP hS (lv_sub hl [1, 0] rfl) h

def fX8_rank_91 (x5 : Int32) (S : zT) : Option (Int32 × zT) :=
  zbv (fX8_comeBack S) fun S_1 =>
  some (x5, S_1)
def fX8_rank_85 (k42 : Int32 → Int32 → Int32 → Int32 → Int32 → Int32 → zT → Option (Int32 × zT)) (x1 : Int32) (x2 : Int32) (x3 : Int32) (x4 : Int32) (x5 : Int32) (x6 : Int32) (S : zT) : Option (Int32 × zT) :=
  k42 x1 x2 x3 x4 x5 (x6 + 1) S
def fX8_rank_79 (k85 : Int32 → Int32 → Int32 → Int32 → Int32 → Int32 → zT → Option (Int32 × zT)) (x1 : Int32) (x2 : Int32) (x3 : Int32) (x4 : Int32) (x5 : Int32) (x6 : Int32) (S : zT) : Option (Int32 × zT) :=
  k85 x1 x2 x3 (x4 + 1) x5 x6 S
def fX8_rank_42 (rec : Int32 → Int32 → Int32 → Int32 → Int32 → Int32 → zT → Option (Int32 × zT)) (x1 : Int32) (x2 : Int32) (x3 : Int32) (x4 : Int32) (x5 : Int32) (x6 : Int32) (S : zT) : Option (Int32 × zT) :=
  (if x3 ≤ x6 then fX8_rank_91 x5 S else (if x5 = (-1) then zbi (fX8_tries x1 x2 x6 S) fun r_3 S_2 =>
  (if r_3 = 0 then (fX8_rank_85 rec) x1 x2 x3 x4 x5 x6 S_2 else zbi (fX8_isAside S_2) fun r_5 S_4 =>
  (if r_5 = 0 then (fX8_rank_79 (fX8_rank_85 rec)) x1 x2 x3 x4 x5 x6 S_4 else (fX8_rank_79 (fX8_rank_85 rec)) x1 x2 x3 x4 x4 x6 S_4)) else fX8_rank_91 x5 S))
def fX8_rank (a1 : Int32) (a2 : Int32) (S : zT) : Option (Int32 × zT) :=
  zlet (zsi S 101 0 0) fun S_6 =>
  zbv (fX8_begins S_6) fun S_7 =>
  zbi (fX8_rows a1 a2 (S_7.1 102 0) S_7) fun r_9 S_8 =>
  (if r_9 = (-1) then some ((-1), S_8) else zbv (fX8_goAside S_8) fun S_10 =>
  (zfix (fun _ _ _ _ _ _ _ => none) fX8_rank_42 zF) a1 a2 r_9 0 (-1) 0 S_10)
abbrev rmX8_rank : Room := { frames := 8, cells := 0, slots := 0, locals := 180 }
theorem yd_X8_rank : yX8_rank.cls = RX8 ∧ yX8_rank.cls ≠ "java/lang/invoke/MethodHandle" ∧ yX8_rank.cls ≠ "java/lang/invoke/VarHandle" ∧ (parseMethodDescriptor yX8_rank.desc).map (fun d => d.parameters.length) = some 2 := by decide +kernel
set_option maxRecDepth 100000 in
set_option maxHeartbeats 4000000 in
theorem ctX8_rank {l : Launch} {dC : Nat → ClassId} {dI : Nat → Nat → Nat} {cI : ClassId × ClassId} {cW : List zSh} {q : Nat → Nat} (hq : zI cW q) (hW : zIs cI cW) {a1 : Int32} {a2 : Int32} {S : zT} {o : Int32 × zT} (h : fX8_rank a1 a2 S = some o) : zCi l dC dI cI cW q yX8_rank (Cond.code yX8_rank cX8_rank 7 (some .int) :: zU) rmX8_rank [.ref (q 101), .int a1, .int a2] S o := by
  refine zMet_i (lv := [(0, .ref (q 101)), (1, .int a1), (2, .int a2)]) (by decide) (Nat.le_of_ble_eq_true rfl) rfl ?_
  intro p e s m args below meth c Q hx hb hml hr hU hown hlocks hK hN hP hS ls hl hQ
  replace hown : s.vm.findClass RX8 = some m.cls := hown
  unfold fX8_rank at h
  have L42 : ∀ (n42 : Nat) (x1 : Int32) (x2 : Int32) (x3 : Int32) (x4 : Int32) (x5 : Int32) (x6 : Int32) (S : zT) (H : Heap) (locs : List Loc) (ls : Array Slot), va_P (dC, dI) vwCl (zWd cI cW q S) H → va_S (zA cW q) s.heap H locs → lv_has ls 7 [(0, .ref (q 101)), (1, .int x1), (2, .int x2), (3, .int x3), (4, .int x4), (5, .int x5), (6, .int x6)] → (zfix (fun _ _ _ _ _ _ _ => none) fX8_rank_42 n42) x1 x2 x3 x4 x5 x6 S = some o → W p l e rmX8_rank s m args below meth c H locs 0 0 Q (F0 m 42 ls []) := by
    intro n42
    induction n42 with
    | zero => intro x1 x2 x3 x4 x5 x6 S H locs ls hP hS hl h; exact zno (show (none : Option (Int32 × zT)) = some o from h)
    | succ n42 ih42 =>
      intro x1 x2 x3 x4 x5 x6 S H locs ls hP hS hl h
      replace h : fX8_rank_42 (zfix (fun _ _ _ _ _ _ _ => none) fX8_rank_42 n42) x1 x2 x3 x4 x5 x6 S = some o := h
      unfold fX8_rank_42 at h
      have L91 : ∀ (x5 : Int32) (S : zT) (H : Heap) (locs : List Loc) (ls : Array Slot), va_P (dC, dI) vwCl (zWd cI cW q S) H → va_S (zA cW q) s.heap H locs → lv_has ls 7 [(0, .ref (q 101)), (5, .int x5)] → fX8_rank_91 x5 S = some o → W p l e rmX8_rank s m args below meth c H locs 0 0 Q (F0 m 91 ls []) := by
        intro x5 S H locs ls hP hS hl h
        unfold fX8_rank_91 at h
        refine lv_aload_n hx hb dX8_rank_91 rfl (lv_at hl 0 rfl) ?_
        refine z_callV_v hx hb hml hown hU hK hN hP hS 0 (p_101 hW) rfl rfl (zU_V uL_X8_204 uI_X8_comeBack uS_X8_comeBack uN_X8 uC_X8_comeBack) yd_X8_comeBack ⟨rfl, rfl⟩ ⟨Nat.le_of_ble_eq_true rfl, Nat.le_of_ble_eq_true rfl⟩ (As := []) (fun o h9 => ctX8_comeBack hq hW h9) rfl hl.1 rfl (Nat.le_of_ble_eq_true rfl) dX8_rank_92 ⟨Nat.zero_le _, Nat.zero_le _⟩ h (fun S_1 H locs hP hS h => ?_)
        refine lv_iload hx hb dX8_rank_95 (lv_at hl 1 rfl) ?_
        exact z_iret hx hb hlocks hP hS hQ hr dX8_rank_97 h
      have L85 : ∀ (x1 : Int32) (x2 : Int32) (x3 : Int32) (x4 : Int32) (x5 : Int32) (x6 : Int32) (S : zT) (H : Heap) (locs : List Loc) (ls : Array Slot), va_P (dC, dI) vwCl (zWd cI cW q S) H → va_S (zA cW q) s.heap H locs → lv_has ls 7 [(0, .ref (q 101)), (1, .int x1), (2, .int x2), (3, .int x3), (4, .int x4), (5, .int x5), (6, .int x6)] → (fX8_rank_85 (zfix (fun _ _ _ _ _ _ _ => none) fX8_rank_42 n42)) x1 x2 x3 x4 x5 x6 S = some o → W p l e rmX8_rank s m args below meth c H locs 0 0 Q (F0 m 85 ls []) := by
        intro x1 x2 x3 x4 x5 x6 S H locs ls hP hS hl h
        unfold fX8_rank_85 at h
        refine lv_iinc (v := (x6 + 1)) (lv' := [(6, .int (x6 + 1)), (0, .ref (q 101)), (1, .int x1), (2, .int x2), (3, .int x3), (4, .int x4), (5, .int x5)]) hx hb dX8_rank_85 hl (k := 6) rfl rfl (by decide) rfl (fun ls hl => ?_)
        refine lv_goto (tgt := 42) hx hb dX8_rank_88 (by decide) ?_
        exact ih42 x1 x2 x3 x4 x5 (x6 + 1) _ _ _ ls hP hS (lv_sub hl [1, 2, 3, 4, 5, 6, 0] rfl) h
      have L79 : ∀ (x1 : Int32) (x2 : Int32) (x3 : Int32) (x4 : Int32) (x5 : Int32) (x6 : Int32) (S : zT) (H : Heap) (locs : List Loc) (ls : Array Slot), va_P (dC, dI) vwCl (zWd cI cW q S) H → va_S (zA cW q) s.heap H locs → lv_has ls 7 [(0, .ref (q 101)), (1, .int x1), (2, .int x2), (3, .int x3), (4, .int x4), (5, .int x5), (6, .int x6)] → (fX8_rank_79 (fX8_rank_85 (zfix (fun _ _ _ _ _ _ _ => none) fX8_rank_42 n42))) x1 x2 x3 x4 x5 x6 S = some o → W p l e rmX8_rank s m args below meth c H locs 0 0 Q (F0 m 79 ls []) := by
        intro x1 x2 x3 x4 x5 x6 S H locs ls hP hS hl h
        unfold fX8_rank_79 at h
        refine lv_iload hx hb dX8_rank_79 (lv_at hl 4 rfl) ?_
        refine lv_iconst (v := 1) hx hb dX8_rank_81 rfl ?_
        refine lv_iadd hx hb dX8_rank_82 ?_
        refine lv_istore (lv' := [(4, .int (x4 + 1)), (0, .ref (q 101)), (1, .int x1), (2, .int x2), (3, .int x3), (5, .int x5), (6, .int x6)]) hx hb dX8_rank_83 hl (by decide) rfl (fun ls hl => ?_)
        exact L85 x1 x2 x3 (x4 + 1) x5 x6 _ _ _ ls hP hS (lv_sub hl [1, 2, 3, 4, 0, 5, 6] rfl) h
      refine lv_iload hx hb dX8_rank_42 (lv_at hl 6 rfl) ?_
      refine lv_iload_n hx hb dX8_rank_44 rfl (lv_at hl 3 rfl) ?_
      refine z_icmp_ge (tgt := 91) hx hb dX8_rank_45 (by decide) h (fun h => ?_) (fun h => ?_)
      · exact L91 x5 _ _ _ ls hP hS (lv_sub hl [0, 5] rfl) h
      · refine lv_iload hx hb dX8_rank_48 (lv_at hl 5 rfl) ?_
        refine lv_iconst (v := (-1)) hx hb dX8_rank_50 rfl ?_
        refine z_icmp_ne (tgt := 91) hx hb dX8_rank_51 (by decide) h (fun h => ?_) (fun h => ?_)
        · exact L91 x5 _ _ _ ls hP hS (lv_sub hl [0, 5] rfl) h
        · refine lv_aload_n hx hb dX8_rank_54 rfl (lv_at hl 0 rfl) ?_
          refine lv_iload_n hx hb dX8_rank_55 rfl (lv_at hl 1 rfl) ?_
          refine lv_iload_n hx hb dX8_rank_56 rfl (lv_at hl 2 rfl) ?_
          refine lv_iload hx hb dX8_rank_57 (lv_at hl 6 rfl) ?_
          refine z_callV_i hx hb hml hown hU hK hN hP hS 3 (p_101 hW) rfl rfl (zU_V uL_X8_194 uI_X8_tries uS_X8_tries uN_X8 uC_X8_tries) yd_X8_tries ⟨rfl, rfl⟩ ⟨Nat.le_of_ble_eq_true rfl, Nat.le_of_ble_eq_true rfl⟩ (As := [.int x1, .int x2, .int x6]) (fun o h9 => ctX8_tries hq hW h9) rfl hl.1 rfl (Nat.le_of_ble_eq_true rfl) dX8_rank_59 ⟨Nat.zero_le _, Nat.zero_le _⟩ h (fun r_3 S_2 H locs hP hS h => ?_)
          refine z_if_ne (tgt := 68) hx hb dX8_rank_62 (by decide) h (fun h => ?_) (fun h => ?_)
          · refine lv_aload_n hx hb dX8_rank_68 rfl (lv_at hl 0 rfl) ?_
            refine z_callV_i hx hb hml hown hU hK hN hP hS 0 (p_101 hW) rfl rfl (zU_V uL_X8_207 uI_X8_isAside uS_X8_isAside uN_X8 uC_X8_isAside) yd_X8_isAside ⟨rfl, rfl⟩ ⟨Nat.le_of_ble_eq_true rfl, Nat.le_of_ble_eq_true rfl⟩ (As := []) (fun o h9 => ctX8_isAside hq hW h9) rfl hl.1 rfl (Nat.le_of_ble_eq_true rfl) dX8_rank_69 ⟨Nat.zero_le _, Nat.zero_le _⟩ h (fun r_5 S_4 H locs hP hS h => ?_)
            refine z_if_eq (tgt := 79) hx hb dX8_rank_72 (by decide) h (fun h => ?_) (fun h => ?_)
            · exact L79 x1 x2 x3 x4 x5 x6 _ _ _ ls hP hS (lv_sub hl [0, 1, 2, 3, 4, 5, 6] rfl) h
            · refine lv_iload hx hb dX8_rank_75 (lv_at hl 4 rfl) ?_
              refine lv_istore (lv' := [(5, .int x4), (0, .ref (q 101)), (1, .int x1), (2, .int x2), (3, .int x3), (4, .int x4), (6, .int x6)]) hx hb dX8_rank_77 hl (by decide) rfl (fun ls hl => ?_)
              exact L79 x1 x2 x3 x4 x4 x6 _ _ _ ls hP hS (lv_sub hl [1, 2, 3, 4, 5, 0, 6] rfl) h
          · refine lv_goto (tgt := 85) hx hb dX8_rank_65 (by decide) ?_
            exact L85 x1 x2 x3 x4 x5 x6 _ _ _ ls hP hS (lv_sub hl [0, 1, 2, 3, 4, 5, 6] rfl) h
  refine lv_aload_n hx hb dX8_rank_0 rfl (lv_at hl 0 rfl) ?_
  refine lv_iconst (v := 0) hx hb dX8_rank_1 rfl ?_
  refine z_puti hx hb hU uU_X8 tyX8 tyX8_ok nmX8 hown hq hK hP hS (p_101 hW) rfl rfl 0 (by decide) (hU _ uF_X8_34) rfl rfl rfl (Nat.le_of_ble_eq_true rfl) rfl dX8_rank_2 h (fun S_6 H locs hP hS h => ?_)
  refine lv_aload_n hx hb dX8_rank_5 rfl (lv_at hl 0 rfl) ?_
  refine z_callV_v hx hb hml hown hU hK hN hP hS 0 (p_101 hW) rfl rfl (zU_V uL_X8_49 uI_X8_begins uS_X8_begins uN_X8 uC_X8_begins) yd_X8_begins ⟨rfl, rfl⟩ ⟨Nat.le_of_ble_eq_true rfl, Nat.le_of_ble_eq_true rfl⟩ (As := []) (fun o h9 => ctX8_begins hq hW h9) rfl hl.1 rfl (Nat.le_of_ble_eq_true rfl) dX8_rank_6 ⟨Nat.zero_le _, Nat.zero_le _⟩ h (fun S_7 H locs hP hS h => ?_)
  refine lv_aload_n hx hb dX8_rank_9 rfl (lv_at hl 0 rfl) ?_
  refine lv_iload_n hx hb dX8_rank_10 rfl (lv_at hl 1 rfl) ?_
  refine lv_iload_n hx hb dX8_rank_11 rfl (lv_at hl 2 rfl) ?_
  refine lv_aload_n hx hb dX8_rank_12 rfl (lv_at hl 0 rfl) ?_
  refine z_get hx hb hU uU_X8 hown hK hP (p_101 hW) rfl rfl 1 (by decide) (hU _ uF_X8_7) rfl dX8_rank_13 ?_
  refine lv_iconst (v := 0) hx hb dX8_rank_16 rfl ?_
  refine z_ialdC (j := 0) hx hb hK hP (pA_102 hW) dX8_rank_17 rfl (by decide) ?_
  refine z_callV_i hx hb hml hown hU hK hN hP hS 3 (p_101 hW) rfl rfl (zU_V uL_X8_190 uI_X8_rows uS_X8_rows uN_X8 uC_X8_rows) yd_X8_rows ⟨rfl, rfl⟩ ⟨Nat.le_of_ble_eq_true rfl, Nat.le_of_ble_eq_true rfl⟩ (As := [.int a1, .int a2, .int (S_7.1 102 0)]) (fun o h9 => ctX8_rows hq hW h9) rfl hl.1 rfl (Nat.le_of_ble_eq_true rfl) dX8_rank_18 ⟨Nat.zero_le _, Nat.zero_le _⟩ h (fun r_9 S_8 H locs hP hS h => ?_)
  refine lv_istore_n (lv' := [(3, .int r_9), (0, .ref (q 101)), (1, .int a1), (2, .int a2)]) hx hb dX8_rank_21 rfl hl (by decide) rfl (fun ls hl => ?_)
  refine lv_iload_n hx hb dX8_rank_22 rfl (lv_at hl 0 rfl) ?_
  refine lv_iconst (v := (-1)) hx hb dX8_rank_23 rfl ?_
  refine z_icmp_ne (tgt := 29) hx hb dX8_rank_24 (by decide) h (fun h => ?_) (fun h => ?_)
  · refine lv_aload_n hx hb dX8_rank_29 rfl (lv_at hl 1 rfl) ?_
    refine z_callV_v hx hb hml hown hU hK hN hP hS 0 (p_101 hW) rfl rfl (zU_V uL_X8_198 uI_X8_goAside uS_X8_goAside uN_X8 uC_X8_goAside) yd_X8_goAside ⟨rfl, rfl⟩ ⟨Nat.le_of_ble_eq_true rfl, Nat.le_of_ble_eq_true rfl⟩ (As := []) (fun o h9 => ctX8_goAside hq hW h9) rfl hl.1 rfl (Nat.le_of_ble_eq_true rfl) dX8_rank_30 ⟨Nat.zero_le _, Nat.zero_le _⟩ h (fun S_10 H locs hP hS h => ?_)
    refine lv_iconst (v := 0) hx hb dX8_rank_33 rfl ?_
    refine lv_istore (lv' := [(4, .int 0), (3, .int r_9), (0, .ref (q 101)), (1, .int a1), (2, .int a2)]) hx hb dX8_rank_34 hl (by decide) rfl (fun ls hl => ?_)
    refine lv_iconst (v := (-1)) hx hb dX8_rank_36 rfl ?_
    refine lv_istore (lv' := [(5, .int (-1)), (4, .int 0), (3, .int r_9), (0, .ref (q 101)), (1, .int a1), (2, .int a2)]) hx hb dX8_rank_37 hl (by decide) rfl (fun ls hl => ?_)
    refine lv_iconst (v := 0) hx hb dX8_rank_39 rfl ?_
    refine lv_istore (lv' := [(6, .int 0), (5, .int (-1)), (4, .int 0), (3, .int r_9), (0, .ref (q 101)), (1, .int a1), (2, .int a2)]) hx hb dX8_rank_40 hl (by decide) rfl (fun ls hl => ?_)
    exact L42 zF a1 a2 r_9 0 (-1) 0 _ _ _ ls hP hS (lv_sub hl [4, 5, 6, 3, 2, 1, 0] rfl) h
  · refine lv_iconst (v := (-1)) hx hb dX8_rank_27 rfl ?_
    exact z_iret hx hb hlocks hP hS hQ hr dX8_rank_28 h

def fX8_mirror_16 (rec : Int32 → Int32 → Int32 → Int32 → zT → Option (Int32 × zT)) (x1 : Int32) (x2 : Int32) (x3 : Int32) (x4 : Int32) (S : zT) : Option (Int32 × zT) :=
  (if (S.1 102 0) ≤ x4 then some (x2, S) else zbi (fX8_twin x4 S) fun r_2 S_1 =>
  if ¬ (r_2 < 0 ∨ 8 ≤ r_2.toNatClampNeg) then if ¬ x1 = 0 then rec x1 ((x1 * x2) + ((((S_1.1 107 r_2.toNatClampNeg) - x3) + x1) - (((S_1.1 107 r_2.toNatClampNeg) - x3) + x1) / x1 * x1)) x3 (x4 + 1) S_1 else none else none)
def fX8_mirror (a1 : Int32) (S : zT) : Option (Int32 × zT) :=
  zbi (fX8_twin 0 S) fun r_4 S_3 =>
  if ¬ (r_4 < 0 ∨ 8 ≤ r_4.toNatClampNeg) then (zfix (fun _ _ _ _ _ => none) fX8_mirror_16 zF) a1 0 (S_3.1 107 r_4.toNatClampNeg) 1 S_3 else none
abbrev rmX8_mirror : Room := { frames := 2, cells := 0, slots := 0, locals := 44 }
theorem yd_X8_mirror : yX8_mirror.cls = RX8 ∧ yX8_mirror.cls ≠ "java/lang/invoke/MethodHandle" ∧ yX8_mirror.cls ≠ "java/lang/invoke/VarHandle" ∧ (parseMethodDescriptor yX8_mirror.desc).map (fun d => d.parameters.length) = some 1 := by decide +kernel
set_option maxRecDepth 100000 in
set_option maxHeartbeats 4000000 in
theorem ctX8_mirror {l : Launch} {dC : Nat → ClassId} {dI : Nat → Nat → Nat} {cI : ClassId × ClassId} {cW : List zSh} {q : Nat → Nat} (hq : zI cW q) (hW : zIs cI cW) {a1 : Int32} {S : zT} {o : Int32 × zT} (h : fX8_mirror a1 S = some o) : zCi l dC dI cI cW q yX8_mirror (Cond.code yX8_mirror cX8_mirror 5 (some .int) :: zU) rmX8_mirror [.ref (q 101), .int a1] S o := by
  refine zMet_i (lv := [(0, .ref (q 101)), (1, .int a1)]) (by decide) (Nat.le_of_ble_eq_true rfl) rfl ?_
  intro p e s m args below meth c Q hx hb hml hr hU hown hlocks hK hN hP hS ls hl hQ
  replace hown : s.vm.findClass RX8 = some m.cls := hown
  unfold fX8_mirror at h
  have L16 : ∀ (n16 : Nat) (x1 : Int32) (x2 : Int32) (x3 : Int32) (x4 : Int32) (S : zT) (H : Heap) (locs : List Loc) (ls : Array Slot), va_P (dC, dI) vwCl (zWd cI cW q S) H → va_S (zA cW q) s.heap H locs → lv_has ls 5 [(0, .ref (q 101)), (1, .int x1), (2, .int x2), (3, .int x3), (4, .int x4)] → (zfix (fun _ _ _ _ _ => none) fX8_mirror_16 n16) x1 x2 x3 x4 S = some o → W p l e rmX8_mirror s m args below meth c H locs 0 0 Q (F0 m 16 ls []) := by
    intro n16
    induction n16 with
    | zero => intro x1 x2 x3 x4 S H locs ls hP hS hl h; exact zno (show (none : Option (Int32 × zT)) = some o from h)
    | succ n16 ih16 =>
      intro x1 x2 x3 x4 S H locs ls hP hS hl h
      replace h : fX8_mirror_16 (zfix (fun _ _ _ _ _ => none) fX8_mirror_16 n16) x1 x2 x3 x4 S = some o := h
      unfold fX8_mirror_16 at h
      refine lv_iload hx hb dX8_mirror_16 (lv_at hl 4 rfl) ?_
      refine lv_aload_n hx hb dX8_mirror_18 rfl (lv_at hl 0 rfl) ?_
      refine z_get hx hb hU uU_X8 hown hK hP (p_101 hW) rfl rfl 1 (by decide) (hU _ uF_X8_7) rfl dX8_mirror_19 ?_
      refine lv_iconst (v := 0) hx hb dX8_mirror_22 rfl ?_
      refine z_ialdC (j := 0) hx hb hK hP (pA_102 hW) dX8_mirror_23 rfl (by decide) ?_
      refine z_icmp_ge (tgt := 55) hx hb dX8_mirror_24 (by decide) h (fun h => ?_) (fun h => ?_)
      · refine lv_iload_n hx hb dX8_mirror_55 rfl (lv_at hl 2 rfl) ?_
        exact z_iret hx hb hlocks hP hS hQ hr dX8_mirror_56 h
      · refine lv_iload_n hx hb dX8_mirror_27 rfl (lv_at hl 1 rfl) ?_
        refine lv_iload_n hx hb dX8_mirror_28 rfl (lv_at hl 2 rfl) ?_
        refine lv_imul hx hb dX8_mirror_29 ?_
        refine lv_aload_n hx hb dX8_mirror_30 rfl (lv_at hl 0 rfl) ?_
        refine z_get hx hb hU uU_X8 hown hK hP (p_101 hW) rfl rfl 19 (by decide) (hU _ uF_X8_25) rfl dX8_mirror_31 ?_
        refine lv_aload_n hx hb dX8_mirror_34 rfl (lv_at hl 0 rfl) ?_
        refine lv_iload hx hb dX8_mirror_35 (lv_at hl 4 rfl) ?_
        refine z_callV_i hx hb hml hown hU hK hN hP hS 1 (p_101 hW) rfl rfl (zU_V uL_X8_77 uI_X8_twin uS_X8_twin uN_X8 uC_X8_twin) yd_X8_twin ⟨rfl, rfl⟩ ⟨Nat.le_of_ble_eq_true rfl, Nat.le_of_ble_eq_true rfl⟩ (As := [.int x4]) (fun o h9 => ctX8_twin hq hW h9) rfl hl.1 rfl (Nat.le_of_ble_eq_true rfl) dX8_mirror_37 ⟨Nat.zero_le _, Nat.zero_le _⟩ h (fun r_2 S_1 H locs hP hS h => ?_)
        refine z_iald hx hb hK hP (pA_107 hW) dX8_mirror_40 h (fun h => ?_)
        refine lv_iload_n hx hb dX8_mirror_41 rfl (lv_at hl 3 rfl) ?_
        refine lv_isub hx hb dX8_mirror_42 ?_
        refine lv_iload_n hx hb dX8_mirror_43 rfl (lv_at hl 1 rfl) ?_
        refine lv_iadd hx hb dX8_mirror_44 ?_
        refine lv_iload_n hx hb dX8_mirror_45 rfl (lv_at hl 1 rfl) ?_
        refine z_irem hx hb dX8_mirror_46 h (fun h => ?_)
        refine lv_iadd hx hb dX8_mirror_47 ?_
        refine lv_istore_n (lv' := [(2, .int ((x1 * x2) + ((((S_1.1 107 r_2.toNatClampNeg) - x3) + x1) - (((S_1.1 107 r_2.toNatClampNeg) - x3) + x1) / x1 * x1))), (0, .ref (q 101)), (1, .int x1), (3, .int x3), (4, .int x4)]) hx hb dX8_mirror_48 rfl hl (by decide) rfl (fun ls hl => ?_)
        refine lv_iinc (v := (x4 + 1)) (lv' := [(4, .int (x4 + 1)), (2, .int ((x1 * x2) + ((((S_1.1 107 r_2.toNatClampNeg) - x3) + x1) - (((S_1.1 107 r_2.toNatClampNeg) - x3) + x1) / x1 * x1))), (0, .ref (q 101)), (1, .int x1), (3, .int x3)]) hx hb dX8_mirror_49 hl (k := 4) rfl rfl (by decide) rfl (fun ls hl => ?_)
        refine lv_goto (tgt := 16) hx hb dX8_mirror_52 (by decide) ?_
        exact ih16 x1 ((x1 * x2) + ((((S_1.1 107 r_2.toNatClampNeg) - x3) + x1) - (((S_1.1 107 r_2.toNatClampNeg) - x3) + x1) / x1 * x1)) x3 (x4 + 1) _ _ _ ls hP hS (lv_sub hl [2, 3, 1, 4, 0] rfl) h
  refine lv_iconst (v := 0) hx hb dX8_mirror_0 rfl ?_
  refine lv_istore_n (lv' := [(2, .int 0), (0, .ref (q 101)), (1, .int a1)]) hx hb dX8_mirror_1 rfl hl (by decide) rfl (fun ls hl => ?_)
  refine lv_aload_n hx hb dX8_mirror_2 rfl (lv_at hl 1 rfl) ?_
  refine z_get hx hb hU uU_X8 hown hK hP (p_101 hW) rfl rfl 19 (by decide) (hU _ uF_X8_25) rfl dX8_mirror_3 ?_
  refine lv_aload_n hx hb dX8_mirror_6 rfl (lv_at hl 1 rfl) ?_
  refine lv_iconst (v := 0) hx hb dX8_mirror_7 rfl ?_
  refine z_callV_i hx hb hml hown hU hK hN hP hS 1 (p_101 hW) rfl rfl (zU_V uL_X8_77 uI_X8_twin uS_X8_twin uN_X8 uC_X8_twin) yd_X8_twin ⟨rfl, rfl⟩ ⟨Nat.le_of_ble_eq_true rfl, Nat.le_of_ble_eq_true rfl⟩ (As := [.int 0]) (fun o h9 => ctX8_twin hq hW h9) rfl hl.1 rfl (Nat.le_of_ble_eq_true rfl) dX8_mirror_8 ⟨Nat.zero_le _, Nat.zero_le _⟩ h (fun r_4 S_3 H locs hP hS h => ?_)
  refine z_iald hx hb hK hP (pA_107 hW) dX8_mirror_11 h (fun h => ?_)
  refine lv_istore_n (lv' := [(3, .int (S_3.1 107 r_4.toNatClampNeg)), (2, .int 0), (0, .ref (q 101)), (1, .int a1)]) hx hb dX8_mirror_12 rfl hl (by decide) rfl (fun ls hl => ?_)
  refine lv_iconst (v := 1) hx hb dX8_mirror_13 rfl ?_
  refine lv_istore (lv' := [(4, .int 1), (3, .int (S_3.1 107 r_4.toNatClampNeg)), (2, .int 0), (0, .ref (q 101)), (1, .int a1)]) hx hb dX8_mirror_14 hl (by decide) rfl (fun ls hl => ?_)
  exact L16 zF a1 0 (S_3.1 107 r_4.toNatClampNeg) 1 _ _ _ ls hP hS (lv_sub hl [3, 4, 2, 1, 0] rfl) h

