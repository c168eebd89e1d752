def fX8_way_204 (k124 : Int32 → Int32 → Int32 → Int32 → Int32 → Int32 → zT → Option (Int32 × zT)) (x2 : Int32) (x3 : Int32) (x4 : Int32) (x5 : Int32) (x6 : Int32) (x7 : Int32) (S : zT) : Option (Int32 × zT) :=
  k124 x2 x3 x4 x5 x6 (x7 + 1) S
def fX8_way_124 (k99 : Int32 → Int32 → Int32 → Int32 → zT → Option (Int32 × zT)) (rec : Int32 → Int32 → Int32 → Int32 → Int32 → Int32 → zT → Option (Int32 × zT)) (x2 : Int32) (x3 : Int32) (x4 : Int32) (x5 : Int32) (x6 : Int32) (x7 : Int32) (S : zT) : Option (Int32 × zT) :=
  (if (zshl 1 (S.1 102 0)) ≤ x7 then k99 x2 x3 x4 x5 S else if ¬ (x7 < 0 ∨ 256 ≤ x7.toNatClampNeg) then (if (S.1 108 x7.toNatClampNeg) = (-1) then zbi (fX8_ones (x6 ^^^ x7) S) fun r_2 S_1 =>
  (if x3 < r_2 then (fX8_way_204 rec) x2 x3 x4 x5 x6 x7 S_1 else zbi (fX8_mayBe x7 S_1) fun r_4 S_3 =>
  (if r_4 = 0 then (fX8_way_204 rec) x2 x3 x4 x5 x6 x7 S_3 else if ¬ (x6 < 0 ∨ 256 ≤ x6.toNatClampNeg) then if ¬ (x7 < 0 ∨ 256 ≤ x7.toNatClampNeg) then zlet (zsi S_3 108 x7.toNatClampNeg ((S_3.1 108 x6.toNatClampNeg) + 1)) (fun S_5 =>
  if ¬ (x5 < 0 ∨ 256 ≤ x5.toNatClampNeg) then zlet (zsi S_5 109 x5.toNatClampNeg x7) (fun S_6 =>
  (fX8_way_204 rec) x2 x3 x4 (x5 + 1) x6 x7 S_6) else none) else none else none)) else (fX8_way_204 rec) x2 x3 x4 x5 x6 x7 S) else none)
def fX8_way_99 (rec : Int32 → Int32 → Int32 → Int32 → zT → Option (Int32 × zT)) (x2 : Int32) (x3 : Int32) (x4 : Int32) (x5 : Int32) (S : zT) : Option (Int32 × zT) :=
  (if x5 ≤ x4 then if ¬ (x2 < 0 ∨ 256 ≤ x2.toNatClampNeg) then some ((S.1 108 x2.toNatClampNeg), S) else none else if ¬ (x4 < 0 ∨ 256 ≤ x4.toNatClampNeg) then (zfix (fun _ _ _ _ _ _ _ => none) (fX8_way_124 rec) zF) x2 x3 (x4 + 1) x5 (S.1 109 x4.toNatClampNeg) 0 S else none)
def fX8_way_57 (rec : Int32 → Int32 → Int32 → Int32 → zT → Option (Int32 × zT)) (x1 : Int32) (x2 : Int32) (x3 : Int32) (x4 : Int32) (S : zT) : Option (Int32 × zT) :=
  (if 256 ≤ x4 then if ¬ (x1 < 0 ∨ 256 ≤ x1.toNatClampNeg) then zlet (zsi S 108 x1.toNatClampNeg 0) (fun S_7 =>
  zlet (zsi S_7 109 0 x1) fun S_8 =>
  (zfix (fun _ _ _ _ _ => none) fX8_way_99 zF) x2 x3 0 1 S_8) else none else if ¬ (x4 < 0 ∨ 256 ≤ x4.toNatClampNeg) then zlet (zsi S 108 x4.toNatClampNeg (-1)) (fun S_9 =>
  rec x1 x2 x3 (x4 + 1) S_9) else none)
def fX8_way (a1 : Int32) (a2 : Int32) (a3 : Int32) (S : zT) : Option (Int32 × zT) :=
  zlet (zsi S 101 0 0) fun S_10 =>
  zbv (fX8_begins S_10) fun S_11 =>
  zbi (fX8_isSet a1 S_11) fun r_13 S_12 =>
  (if r_13 = 0 then some ((-1), S_12) else zbi (fX8_isSet a2 S_12) fun r_15 S_14 =>
  (if r_15 = 0 then some ((-1), S_14) else (if a3 < 1 then some ((-1), S_14) else (if 8 < a3 then some ((-1), S_14) else zbi (fX8_mayBe a1 S_14) fun r_17 S_16 =>
  (if r_17 = 0 then some ((-1), S_16) else zbi (fX8_mayBe a2 S_16) fun r_19 S_18 =>
  (if r_19 = 0 then some ((-1), S_18) else (zfix (fun _ _ _ _ _ => none) fX8_way_57 zF) a1 a2 a3 0 S_18))))))
abbrev rmX8_way : Room := { frames := 3, cells := 0, slots := 0, locals := 68 }
theorem yd_X8_way : yX8_way.cls = RX8 ∧ yX8_way.cls ≠ "java/lang/invoke/MethodHandle" ∧ yX8_way.cls ≠ "java/lang/invoke/VarHandle" ∧ (parseMethodDescriptor yX8_way.desc).map (fun d => d.parameters.length) = some 3 := by decide +kernel
set_option maxRecDepth 100000 in
set_option maxHeartbeats 4000000 in
theorem ctX8_way {l : Launch} {dC : Nat → ClassId} {dI : Nat → Nat → Nat} {cI : ClassId × ClassId} {cW : List zSh} {q : Nat → Nat} (hq : zI cW q) (hW : zIs cI cW) {a1 : Int32} {a2 : Int32} {a3 : Int32} {S : zT} {o : Int32 × zT} (h : fX8_way a1 a2 a3 S = some o) : zCi l dC dI cI cW q yX8_way (Cond.code yX8_way cX8_way 8 (some .int) :: zU) rmX8_way [.ref (q 101), .int a1, .int a2, .int a3] S o := by
  refine zMet_i (lv := [(0, .ref (q 101)), (1, .int a1), (2, .int a2), (3, .int a3)]) (by decide) (Nat.le_of_ble_eq_true rfl) rfl ?_
  intro p e s m args below meth c Q hx hb hml hr hU hown hlocks hK hN hP hS ls hl hQ
  replace hown : s.vm.findClass RX8 = some m.cls := hown
  unfold fX8_way at h
  have L57 : ∀ (n57 : Nat) (x1 : Int32) (x2 : Int32) (x3 : Int32) (x4 : Int32) (S : zT) (H : Heap) (locs : List Loc) (ls : Array Slot), va_P (dC, dI) vwCl (zWd cI cW q S) H → va_S (zA cW q) s.heap H locs → lv_has ls 8 [(0, .ref (q 101)), (1, .int x1), (2, .int x2), (3, .int x3), (4, .int x4)] → (zfix (fun _ _ _ _ _ => none) fX8_way_57 n57) x1 x2 x3 x4 S = some o → W p l e rmX8_way s m args below meth c H locs 0 0 Q (F0 m 57 ls []) := by
    intro n57
    induction n57 with
    | zero => intro x1 x2 x3 x4 S H locs ls hP hS hl h; exact zno (show (none : Option (Int32 × zT)) = some o from h)
    | succ n57 ih57 =>
      intro x1 x2 x3 x4 S H locs ls hP hS hl h
      replace h : fX8_way_57 (zfix (fun _ _ _ _ _ => none) fX8_way_57 n57) x1 x2 x3 x4 S = some o := h
      unfold fX8_way_57 at h
      have L99 : ∀ (n99 : Nat) (x2 : Int32) (x3 : Int32) (x4 : Int32) (x5 : Int32) (S : zT) (H : Heap) (locs : List Loc) (ls : Array Slot), va_P (dC, dI) vwCl (zWd cI cW q S) H → va_S (zA cW q) s.heap H locs → lv_has ls 8 [(0, .ref (q 101)), (2, .int x2), (3, .int x3), (4, .int x4), (5, .int x5)] → (zfix (fun _ _ _ _ _ => none) fX8_way_99 n99) x2 x3 x4 x5 S = some o → W p l e rmX8_way s m args below meth c H locs 0 0 Q (F0 m 99 ls []) := by
        intro n99
        induction n99 with
        | zero => intro x2 x3 x4 x5 S H locs ls hP hS hl h; exact zno (show (none : Option (Int32 × zT)) = some o from h)
        | succ n99 ih99 =>
          intro x2 x3 x4 x5 S H locs ls hP hS hl h
          replace h : fX8_way_99 (zfix (fun _ _ _ _ _ => none) fX8_way_99 n99) x2 x3 x4 x5 S = some o := h
          unfold fX8_way_99 at h
          have L124 : ∀ (n124 : Nat) (x2 : Int32) (x3 : Int32) (x4 : Int32) (x5 : Int32) (x6 : Int32) (x7 : Int32) (S : zT) (H : Heap) (locs : List Loc) (ls : Array Slot), va_P (dC, dI) vwCl (zWd cI cW q S) H → va_S (zA cW q) s.heap H locs → lv_has ls 8 [(0, .ref (q 101)), (2, .int x2), (3, .int x3), (4, .int x4), (5, .int x5), (6, .int x6), (7, .int x7)] → (zfix (fun _ _ _ _ _ _ _ => none) (fX8_way_124 (zfix (fun _ _ _ _ _ => none) fX8_way_99 n99)) n124) x2 x3 x4 x5 x6 x7 S = some o → W p l e rmX8_way s m args below meth c H locs 0 0 Q (F0 m 124 ls []) := by
            intro n124
            induction n124 with
            | zero => intro x2 x3 x4 x5 x6 x7 S H locs ls hP hS hl h; exact zno (show (none : Option (Int32 × zT)) = some o from h)
            | succ n124 ih124 =>
              intro x2 x3 x4 x5 x6 x7 S H locs ls hP hS hl h
              replace h : fX8_way_124 (zfix (fun _ _ _ _ _ => none) fX8_way_99 n99) (zfix (fun _ _ _ _ _ _ _ => none) (fX8_way_124 (zfix (fun _ _ _ _ _ => none) fX8_way_99 n99)) n124) x2 x3 x4 x5 x6 x7 S = some o := h
              unfold fX8_way_124 at h
              have L204 : ∀ (x2 : Int32) (x3 : Int32) (x4 : Int32) (x5 : Int32) (x6 : Int32) (x7 : Int32) (S : zT) (H : Heap) (locs : List Loc) (ls : Array Slot), va_P (dC, dI) vwCl (zWd cI cW q S) H → va_S (zA cW q) s.heap H locs → lv_has ls 8 [(0, .ref (q 101)), (2, .int x2), (3, .int x3), (4, .int x4), (5, .int x5), (6, .int x6), (7, .int x7)] → (fX8_way_204 (zfix (fun _ _ _ _ _ _ _ => none) (fX8_way_124 (zfix (fun _ _ _ _ _ => none) fX8_way_99 n99)) n124)) x2 x3 x4 x5 x6 x7 S = some o → W p l e rmX8_way s m args below meth c H locs 0 0 Q (F0 m 204 ls []) := by
                intro x2 x3 x4 x5 x6 x7 S H locs ls hP hS hl h
                unfold fX8_way_204 at h
                refine lv_iinc (v := (x7 + 1)) (lv' := [(7, .int (x7 + 1)), (0, .ref (q 101)), (2, .int x2), (3, .int x3), (4, .int x4), (5, .int x5), (6, .int x6)]) hx hb dX8_way_204 hl (k := 6) rfl rfl (by decide) rfl (fun ls hl => ?_)
                refine lv_goto (tgt := 124) hx hb dX8_way_207 (by decide) ?_
                exact ih124 x2 x3 x4 x5 x6 (x7 + 1) _ _ _ ls hP hS (lv_sub hl [1, 2, 3, 4, 5, 6, 0] rfl) h
              refine lv_iload hx hb dX8_way_124 (lv_at hl 6 rfl) ?_
              refine lv_iconst (v := 1) hx hb dX8_way_126 rfl ?_
              refine lv_aload_n hx hb dX8_way_127 rfl (lv_at hl 0 rfl) ?_
              refine z_get hx hb hU uU_X8 hown hK hP (p_101 hW) rfl rfl 1 (by decide) (hU _ uF_X8_7) rfl dX8_way_128 ?_
              refine lv_iconst (v := 0) hx hb dX8_way_131 rfl ?_
              refine z_ialdC (j := 0) hx hb hK hP (pA_102 hW) dX8_way_132 rfl (by decide) ?_
              refine lv_ishl hx hb dX8_way_133 ?_
              refine z_icmp_ge (tgt := 210) hx hb dX8_way_134 (by decide) h (fun h => ?_) (fun h => ?_)
              · refine lv_goto (tgt := 99) hx hb dX8_way_210 (by decide) ?_
                exact ih99 x2 x3 x4 x5 _ _ _ ls hP hS (lv_sub hl [0, 1, 2, 3, 4] rfl) h
              · refine lv_aload_n hx hb dX8_way_137 rfl (lv_at hl 0 rfl) ?_
                refine z_get hx hb hU uU_X8 hown hK hP (p_101 hW) rfl rfl 20 (by decide) (hU _ uF_X8_28) rfl dX8_way_138 ?_
                refine lv_iload hx hb dX8_way_141 (lv_at hl 6 rfl) ?_
                refine z_iald hx hb hK hP (pA_108 hW) dX8_way_143 h (fun h => ?_)
                refine lv_iconst (v := (-1)) hx hb dX8_way_144 rfl ?_
                refine z_icmp_ne (tgt := 204) hx hb dX8_way_145 (by decide) h (fun h => ?_) (fun h => ?_)
                · exact L204 x2 x3 x4 x5 x6 x7 _ _ _ ls hP hS (lv_sub hl [0, 1, 2, 3, 4, 5, 6] rfl) h
                · refine lv_aload_n hx hb dX8_way_148 rfl (lv_at hl 0 rfl) ?_
                  refine lv_iload hx hb dX8_way_149 (lv_at hl 5 rfl) ?_
                  refine lv_iload hx hb dX8_way_151 (lv_at hl 6 rfl) ?_
                  refine lv_ixor hx hb dX8_way_153 ?_
                  refine z_callV_i hx hb hml hown hU hK hN hP hS 1 (p_101 hW) rfl rfl (zU_V uL_X8_216 uI_X8_ones uS_X8_ones uN_X8 uC_X8_ones) yd_X8_ones ⟨rfl, rfl⟩ ⟨Nat.le_of_ble_eq_true rfl, Nat.le_of_ble_eq_true rfl⟩ (As := [.int (x6 ^^^ x7)]) (fun o h9 => ctX8_ones hq hW h9) rfl hl.1 rfl (Nat.le_of_ble_eq_true rfl) dX8_way_154 ⟨Nat.zero_le _, Nat.zero_le _⟩ h (fun r_2 S_1 H locs hP hS h => ?_)
                  refine lv_iload_n hx hb dX8_way_157 rfl (lv_at hl 2 rfl) ?_
                  refine z_icmp_gt (tgt := 204) hx hb dX8_way_158 (by decide) h (fun h => ?_) (fun h => ?_)
                  · exact L204 x2 x3 x4 x5 x6 x7 _ _ _ ls hP hS (lv_sub hl [0, 1, 2, 3, 4, 5, 6] rfl) h
                  · refine lv_aload_n hx hb dX8_way_161 rfl (lv_at hl 0 rfl) ?_
                    refine lv_iload hx hb dX8_way_162 (lv_at hl 6 rfl) ?_
                    refine z_callV_i hx hb hml hown hU hK hN hP hS 1 (p_101 hW) rfl rfl (zU_V uL_X8_213 uI_X8_mayBe uS_X8_mayBe uN_X8 uC_X8_mayBe) yd_X8_mayBe ⟨rfl, rfl⟩ ⟨Nat.le_of_ble_eq_true rfl, Nat.le_of_ble_eq_true rfl⟩ (As := [.int x7]) (fun o h9 => ctX8_mayBe hq hW h9) rfl hl.1 rfl (Nat.le_of_ble_eq_true rfl) dX8_way_164 ⟨Nat.zero_le _, Nat.zero_le _⟩ h (fun r_4 S_3 H locs hP hS h => ?_)
                    refine z_if_ne (tgt := 173) hx hb dX8_way_167 (by decide) h (fun h => ?_) (fun h => ?_)
                    · refine lv_aload_n hx hb dX8_way_173 rfl (lv_at hl 0 rfl) ?_
                      refine z_get hx hb hU uU_X8 hown hK hP (p_101 hW) rfl rfl 20 (by decide) (hU _ uF_X8_28) rfl dX8_way_174 ?_
                      refine lv_iload hx hb dX8_way_177 (lv_at hl 6 rfl) ?_
                      refine lv_aload_n hx hb dX8_way_179 rfl (lv_at hl 0 rfl) ?_
                      refine z_get hx hb hU uU_X8 hown hK hP (p_101 hW) rfl rfl 20 (by decide) (hU _ uF_X8_28) rfl dX8_way_180 ?_
                      refine lv_iload hx hb dX8_way_183 (lv_at hl 5 rfl) ?_
                      refine z_iald hx hb hK hP (pA_108 hW) dX8_way_185 h (fun h => ?_)
                      refine lv_iconst (v := 1) hx hb dX8_way_186 rfl ?_
                      refine lv_iadd hx hb dX8_way_187 ?_
                      refine z_iast hx hb hq hK hP hS (pA_108 hW) dX8_way_188 h (fun S_5 H locs hP hS h => ?_)
                      refine lv_aload_n hx hb dX8_way_189 rfl (lv_at hl 0 rfl) ?_
                      refine z_get hx hb hU uU_X8 hown hK hP (p_101 hW) rfl rfl 21 (by decide) (hU _ uF_X8_31) rfl dX8_way_190 ?_
                      refine lv_iload hx hb dX8_way_193 (lv_at hl 4 rfl) ?_
                      refine lv_iload hx hb dX8_way_195 (lv_at hl 6 rfl) ?_
                      refine z_iast hx hb hq hK hP hS (pA_109 hW) dX8_way_197 h (fun S_6 H locs hP hS h => ?_)
                      refine lv_iload hx hb dX8_way_198 (lv_at hl 4 rfl) ?_
                      refine lv_iconst (v := 1) hx hb dX8_way_200 rfl ?_
                      refine lv_iadd hx hb dX8_way_201 ?_
                      refine lv_istore (lv' := [(5, .int (x5 + 1)), (0, .ref (q 101)), (2, .int x2), (3, .int x3), (4, .int x4), (6, .int x6), (7, .int x7)]) hx hb dX8_way_202 hl (by decide) rfl (fun ls hl => ?_)
                      exact L204 x2 x3 x4 (x5 + 1) x6 x7 _ _ _ ls hP hS (lv_sub hl [1, 2, 3, 4, 0, 5, 6] rfl) h
                    · refine lv_goto (tgt := 204) hx hb dX8_way_170 (by decide) ?_
                      exact L204 x2 x3 x4 x5 x6 x7 _ _ _ ls hP hS (lv_sub hl [0, 1, 2, 3, 4, 5, 6] rfl) h
          refine lv_iload hx hb dX8_way_99 (lv_at hl 3 rfl) ?_
          refine lv_iload hx hb dX8_way_101 (lv_at hl 4 rfl) ?_
          refine z_icmp_ge (tgt := 213) hx hb dX8_way_103 (by decide) h (fun h => ?_) (fun h => ?_)
          · refine lv_aload_n hx hb dX8_way_213 rfl (lv_at hl 0 rfl) ?_
            refine z_get hx hb hU uU_X8 hown hK hP (p_101 hW) rfl rfl 20 (by decide) (hU _ uF_X8_28) rfl dX8_way_214 ?_
            refine lv_iload_n hx hb dX8_way_217 rfl (lv_at hl 1 rfl) ?_
            refine z_iald hx hb hK hP (pA_108 hW) dX8_way_218 h (fun h => ?_)
            exact z_iret hx hb hlocks hP hS hQ hr dX8_way_219 h
          · refine lv_aload_n hx hb dX8_way_106 rfl (lv_at hl 0 rfl) ?_
            refine z_get hx hb hU uU_X8 hown hK hP (p_101 hW) rfl rfl 21 (by decide) (hU _ uF_X8_31) rfl dX8_way_107 ?_
            refine lv_iload hx hb dX8_way_110 (lv_at hl 3 rfl) ?_
            refine z_iald hx hb hK hP (pA_109 hW) dX8_way_112 h (fun h => ?_)
            refine lv_istore (lv' := [(6, .int (S.1 109 x4.toNatClampNeg)), (0, .ref (q 101)), (2, .int x2), (3, .int x3), (4, .int x4), (5, .int x5)]) hx hb dX8_way_113 hl (by decide) rfl (fun ls hl => ?_)
            refine lv_iload hx hb dX8_way_115 (lv_at hl 4 rfl) ?_
            refine lv_iconst (v := 1) hx hb dX8_way_117 rfl ?_
            refine lv_iadd hx hb dX8_way_118 ?_
            refine lv_istore (lv' := [(4, .int (x4 + 1)), (6, .int (S.1 109 x4.toNatClampNeg)), (0, .ref (q 101)), (2, .int x2), (3, .int x3), (5, .int x5)]) hx hb dX8_way_119 hl (by decide) rfl (fun ls hl => ?_)
            refine lv_iconst (v := 0) hx hb dX8_way_121 rfl ?_
            refine lv_istore (lv' := [(7, .int 0), (4, .int (x4 + 1)), (6, .int (S.1 109 x4.toNatClampNeg)), (0, .ref (q 101)), (2, .int x2), (3, .int x3), (5, .int x5)]) hx hb dX8_way_122 hl (by decide) rfl (fun ls hl => ?_)
            exact L124 zF x2 x3 (x4 + 1) x5 (S.1 109 x4.toNatClampNeg) 0 _ _ _ ls hP hS (lv_sub hl [3, 4, 5, 1, 6, 2, 0] rfl) h
      refine lv_iload hx hb dX8_way_57 (lv_at hl 4 rfl) ?_
      refine lv_sipush (v := 256) hx hb dX8_way_59 rfl ?_
      refine z_icmp_ge (tgt := 79) hx hb dX8_way_62 (by decide) h (fun h => ?_) (fun h => ?_)
      · refine lv_aload_n hx hb dX8_way_79 rfl (lv_at hl 0 rfl) ?_
        refine z_get hx hb hU uU_X8 hown hK hP (p_101 hW) rfl rfl 20 (by decide) (hU _ uF_X8_28) rfl dX8_way_80 ?_
        refine lv_iload_n hx hb dX8_way_83 rfl (lv_at hl 1 rfl) ?_
        refine lv_iconst (v := 0) hx hb dX8_way_84 rfl ?_
        refine z_iast hx hb hq hK hP hS (pA_108 hW) dX8_way_85 h (fun S_7 H locs hP hS h => ?_)
        refine lv_aload_n hx hb dX8_way_86 rfl (lv_at hl 0 rfl) ?_
        refine z_get hx hb hU uU_X8 hown hK hP (p_101 hW) rfl rfl 21 (by decide) (hU _ uF_X8_31) rfl dX8_way_87 ?_
        refine lv_iconst (v := 0) hx hb dX8_way_90 rfl ?_
        refine lv_iload_n hx hb dX8_way_91 rfl (lv_at hl 1 rfl) ?_
        refine z_iastC (j := 0) hx hb hq hK hP hS (pA_109 hW) dX8_way_92 rfl (by decide) h (fun S_8 H locs hP hS h => ?_)
        refine lv_iconst (v := 0) hx hb dX8_way_93 rfl ?_
        refine lv_istore (lv' := [(4, .int 0), (0, .ref (q 101)), (1, .int x1), (2, .int x2), (3, .int x3)]) hx hb dX8_way_94 hl (by decide) rfl (fun ls hl => ?_)
        refine lv_iconst (v := 1) hx hb dX8_way_96 rfl ?_
        refine lv_istore (lv' := [(5, .int 1), (4, .int 0), (0, .ref (q 101)), (1, .int x1), (2, .int x2), (3, .int x3)]) hx hb dX8_way_97 hl (by decide) rfl (fun ls hl => ?_)
        exact L99 zF x2 x3 0 1 _ _ _ ls hP hS (lv_sub hl [2, 4, 5, 1, 0] rfl) h
      · refine lv_aload_n hx hb dX8_way_65 rfl (lv_at hl 0 rfl) ?_
        refine z_get hx hb hU uU_X8 hown hK hP (p_101 hW) rfl rfl 20 (by decide) (hU _ uF_X8_28) rfl dX8_way_66 ?_
        refine lv_iload hx hb dX8_way_69 (lv_at hl 4 rfl) ?_
        refine lv_iconst (v := (-1)) hx hb dX8_way_71 rfl ?_
        refine z_iast hx hb hq hK hP hS (pA_108 hW) dX8_way_72 h (fun S_9 H locs hP hS h => ?_)
        refine lv_iinc (v := (x4 + 1)) (lv' := [(4, .int (x4 + 1)), (0, .ref (q 101)), (1, .int x1), (2, .int x2), (3, .int x3)]) hx hb dX8_way_73 hl (k := 4) rfl rfl (by decide) rfl (fun ls hl => ?_)
        refine lv_goto (tgt := 57) hx hb dX8_way_76 (by decide) ?_
        exact ih57 x1 x2 x3 (x4 + 1) _ _ _ ls hP hS (lv_sub hl [1, 2, 3, 4, 0] rfl) h
  refine lv_aload_n hx hb dX8_way_0 rfl (lv_at hl 0 rfl) ?_
  refine lv_iconst (v := 0) hx hb dX8_way_1 rfl ?_
  refine z_puti hx hb hU uU_X8 tyX8 tyX8_ok nmX8 hown hq hK hP hS (p_101 hW) rfl rfl 0 (by decide) (hU _ uF_X8_34) rfl rfl rfl (Nat.le_of_ble_eq_true rfl) rfl dX8_way_2 h (fun S_10 H locs hP hS h => ?_)
  refine lv_aload_n hx hb dX8_way_5 rfl (lv_at hl 0 rfl) ?_
  refine z_callV_v hx hb hml hown hU hK hN hP hS 0 (p_101 hW) rfl rfl (zU_V uL_X8_49 uI_X8_begins uS_X8_begins uN_X8 uC_X8_begins) yd_X8_begins ⟨rfl, rfl⟩ ⟨Nat.le_of_ble_eq_true rfl, Nat.le_of_ble_eq_true rfl⟩ (As := []) (fun o h9 => ctX8_begins hq hW h9) rfl hl.1 rfl (Nat.le_of_ble_eq_true rfl) dX8_way_6 ⟨Nat.zero_le _, Nat.zero_le _⟩ h (fun S_11 H locs hP hS h => ?_)
  refine lv_aload_n hx hb dX8_way_9 rfl (lv_at hl 0 rfl) ?_
  refine lv_iload_n hx hb dX8_way_10 rfl (lv_at hl 1 rfl) ?_
  refine z_callV_i hx hb hml hown hU hK hN hP hS 1 (p_101 hW) rfl rfl (zU_V uL_X8_74 uI_X8_isSet uS_X8_isSet uN_X8 uC_X8_isSet) yd_X8_isSet ⟨rfl, rfl⟩ ⟨Nat.le_of_ble_eq_true rfl, Nat.le_of_ble_eq_true rfl⟩ (As := [.int a1]) (fun o h9 => ctX8_isSet hq hW h9) rfl hl.1 rfl (Nat.le_of_ble_eq_true rfl) dX8_way_11 ⟨Nat.zero_le _, Nat.zero_le _⟩ h (fun r_13 S_12 H locs hP hS h => ?_)
  refine z_if_eq (tgt := 52) hx hb dX8_way_14 (by decide) h (fun h => ?_) (fun h => ?_)
  · refine lv_iconst (v := (-1)) hx hb dX8_way_52 rfl ?_
    exact z_iret hx hb hlocks hP hS hQ hr dX8_way_53 h
  · refine lv_aload_n hx hb dX8_way_17 rfl (lv_at hl 0 rfl) ?_
    refine lv_iload_n hx hb dX8_way_18 rfl (lv_at hl 2 rfl) ?_
    refine z_callV_i hx hb hml hown hU hK hN hP hS 1 (p_101 hW) rfl rfl (zU_V uL_X8_74 uI_X8_isSet uS_X8_isSet uN_X8 uC_X8_isSet) yd_X8_isSet ⟨rfl, rfl⟩ ⟨Nat.le_of_ble_eq_true rfl, Nat.le_of_ble_eq_true rfl⟩ (As := [.int a2]) (fun o h9 => ctX8_isSet hq hW h9) rfl hl.1 rfl (Nat.le_of_ble_eq_true rfl) dX8_way_19 ⟨Nat.zero_le _, Nat.zero_le _⟩ h (fun r_15 S_14 H locs hP hS h => ?_)
    refine z_if_eq (tgt := 52) hx hb dX8_way_22 (by decide) h (fun h => ?_) (fun h => ?_)
    · refine lv_iconst (v := (-1)) hx hb dX8_way_52 rfl ?_
      exact z_iret hx hb hlocks hP hS hQ hr dX8_way_53 h
    · refine lv_iload_n hx hb dX8_way_25 rfl (lv_at hl 3 rfl) ?_
      refine lv_iconst (v := 1) hx hb dX8_way_26 rfl ?_
      refine z_icmp_lt (tgt := 52) hx hb dX8_way_27 (by decide) h (fun h => ?_) (fun h => ?_)
      · refine lv_iconst (v := (-1)) hx hb dX8_way_52 rfl ?_
        exact z_iret hx hb hlocks hP hS hQ hr dX8_way_53 h
      · refine lv_iload_n hx hb dX8_way_30 rfl (lv_at hl 3 rfl) ?_
        refine lv_bipush (v := 8) hx hb dX8_way_31 rfl ?_
        refine z_icmp_gt (tgt := 52) hx hb dX8_way_33 (by decide) h (fun h => ?_) (fun h => ?_)
        · refine lv_iconst (v := (-1)) hx hb dX8_way_52 rfl ?_
          exact z_iret hx hb hlocks hP hS hQ hr dX8_way_53 h
        · refine lv_aload_n hx hb dX8_way_36 rfl (lv_at hl 0 rfl) ?_
          refine lv_iload_n hx hb dX8_way_37 rfl (lv_at hl 1 rfl) ?_
          refine z_callV_i hx hb hml hown hU hK hN hP hS 1 (p_101 hW) rfl rfl (zU_V uL_X8_213 uI_X8_mayBe uS_X8_mayBe uN_X8 uC_X8_mayBe) yd_X8_mayBe ⟨rfl, rfl⟩ ⟨Nat.le_of_ble_eq_true rfl, Nat.le_of_ble_eq_true rfl⟩ (As := [.int a1]) (fun o h9 => ctX8_mayBe hq hW h9) rfl hl.1 rfl (Nat.le_of_ble_eq_true rfl) dX8_way_38 ⟨Nat.zero_le _, Nat.zero_le _⟩ h (fun r_17 S_16 H locs hP hS h => ?_)
          refine z_if_eq (tgt := 52) hx hb dX8_way_41 (by decide) h (fun h => ?_) (fun h => ?_)
          · refine lv_iconst (v := (-1)) hx hb dX8_way_52 rfl ?_
            exact z_iret hx hb hlocks hP hS hQ hr dX8_way_53 h
          · refine lv_aload_n hx hb dX8_way_44 rfl (lv_at hl 0 rfl) ?_
            refine lv_iload_n hx hb dX8_way_45 rfl (lv_at hl 2 rfl) ?_
            refine z_callV_i hx hb hml hown hU hK hN hP hS 1 (p_101 hW) rfl rfl (zU_V uL_X8_213 uI_X8_mayBe uS_X8_mayBe uN_X8 uC_X8_mayBe) yd_X8_mayBe ⟨rfl, rfl⟩ ⟨Nat.le_of_ble_eq_true rfl, Nat.le_of_ble_eq_true rfl⟩ (As := [.int a2]) (fun o h9 => ctX8_mayBe hq hW h9) rfl hl.1 rfl (Nat.le_of_ble_eq_true rfl) dX8_way_46 ⟨Nat.zero_le _, Nat.zero_le _⟩ h (fun r_19 S_18 H locs hP hS h => ?_)
            refine z_if_ne (tgt := 54) hx hb dX8_way_49 (by decide) h (fun h => ?_) (fun h => ?_)
            · refine lv_iconst (v := 0) hx hb dX8_way_54 rfl ?_
              refine lv_istore (lv' := [(4, .int 0), (0, .ref (q 101)), (1, .int a1), (2, .int a2), (3, .int a3)]) hx hb dX8_way_55 hl (by decide) rfl (fun ls hl => ?_)
              exact L57 zF a1 a2 a3 0 _ _ _ ls hP hS (lv_sub hl [1, 2, 3, 4, 0] rfl) h
            · refine lv_iconst (v := (-1)) hx hb dX8_way_52 rfl ?_
              exact z_iret hx hb hlocks hP hS hQ hr dX8_way_53 h

