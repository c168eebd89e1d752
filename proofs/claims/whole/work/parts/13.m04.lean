def fX4_holdsMiddle_137 (x1 : Int32) (x2 : Int32) (S : zT) : Option (Int32 × zT) :=
  (if x1 = 0 then some (0, S) else (if x2 = 0 then some (0, S) else some (1, S)))
def fX4_holdsMiddle_124 (k77 : Int32 → Int32 → Int32 → Int32 → zT → Option (Int32 × zT)) (x1 : Int32) (x3 : Int32) (x4 : Int32) (t0 : Int32) (S : zT) : Option (Int32 × zT) :=
  k77 x1 t0 x3 (x4 + 1) S
def fX4_holdsMiddle_119 (k124 : Int32 → Int32 → Int32 → Int32 → zT → Option (Int32 × zT)) (x1 : Int32) (x3 : Int32) (x4 : Int32) (S : zT) : Option (Int32 × zT) :=
  k124 x1 x3 x4 1 S
def fX4_holdsMiddle_109 (k77 : Int32 → Int32 → Int32 → Int32 → zT → Option (Int32 × zT)) (x2 : Int32) (x3 : Int32) (x4 : Int32) (x5 : Int32) (t0 : Int32) (S : zT) : Option (Int32 × zT) :=
  (if x2 = 0 then (if x5 < 0 then (fX4_holdsMiddle_124 k77) t0 x3 x4 0 S else (fX4_holdsMiddle_119 (fX4_holdsMiddle_124 k77)) t0 x3 x4 S) else (fX4_holdsMiddle_119 (fX4_holdsMiddle_124 k77)) t0 x3 x4 S)
def fX4_holdsMiddle_104 (k109 : Int32 → Int32 → Int32 → Int32 → Int32 → zT → Option (Int32 × zT)) (x2 : Int32) (x3 : Int32) (x4 : Int32) (x5 : Int32) (S : zT) : Option (Int32 × zT) :=
  k109 x2 x3 x4 x5 1 S
def fX4_holdsMiddle_77 (k58 : Int32 → Int32 → Int32 → zT → Option (Int32 × zT)) (rec : Int32 → Int32 → Int32 → Int32 → zT → Option (Int32 × zT)) (x1 : Int32) (x2 : Int32) (x3 : Int32) (x4 : Int32) (S : zT) : Option (Int32 × zT) :=
  (if (S.1 81 5) ≤ x4 then k58 x1 x2 (x3 + 1) S else zbi (fX4_heightAbove x3 x4 S) fun r_2 S_1 =>
  (if x1 = 0 then (if 0 < r_2 then (fX4_holdsMiddle_109 rec) x2 x3 x4 r_2 0 S_1 else (fX4_holdsMiddle_104 (fX4_holdsMiddle_109 rec)) x2 x3 x4 r_2 S_1) else (fX4_holdsMiddle_104 (fX4_holdsMiddle_109 rec)) x2 x3 x4 r_2 S_1))
def fX4_holdsMiddle_74 (k58 : Int32 → Int32 → Int32 → zT → Option (Int32 × zT)) (x1 : Int32) (x2 : Int32) (x3 : Int32) (S : zT) : Option (Int32 × zT) :=
  (zfix (fun _ _ _ _ _ => none) (fX4_holdsMiddle_77 k58) zF) x1 x2 x3 0 S
def fX4_holdsMiddle_58 (rec : Int32 → Int32 → Int32 → zT → Option (Int32 × zT)) (x1 : Int32) (x2 : Int32) (x3 : Int32) (S : zT) : Option (Int32 × zT) :=
  (if (S.1 81 4) ≤ x3 then fX4_holdsMiddle_137 x1 x2 S else (if x1 = 0 then (fX4_holdsMiddle_74 rec) x1 x2 x3 S else (if x2 = 0 then (fX4_holdsMiddle_74 rec) x1 x2 x3 S else fX4_holdsMiddle_137 x1 x2 S)))
def fX4_holdsMiddle_55 (x1 : Int32) (t0 : Int32) (S : zT) : Option (Int32 × zT) :=
  (zfix (fun _ _ _ _ => none) fX4_holdsMiddle_58 zF) x1 t0 0 S
def fX4_holdsMiddle_54 (k55 : Int32 → Int32 → zT → Option (Int32 × zT)) (x1 : Int32) (S : zT) : Option (Int32 × zT) :=
  k55 x1 0 S
def fX4_holdsMiddle_27 (t0 : Int32) (S : zT) : Option (Int32 × zT) :=
  zbi (fX1_isNone 91 S) fun r_4 S_3 =>
  (if r_4 = 0 then (if (lg_cmp (S_3.2 91 0) 0) < 0 then (fX4_holdsMiddle_54 fX4_holdsMiddle_55) t0 S_3 else fX4_holdsMiddle_55 t0 1 S_3) else (fX4_holdsMiddle_54 fX4_holdsMiddle_55) t0 S_3)
def fX4_holdsMiddle_26 (k27 : Int32 → zT → Option (Int32 × zT)) (S : zT) : Option (Int32 × zT) :=
  k27 0 S
def fX4_holdsMiddle (S : zT) : Option (Int32 × zT) :=
  zbi (fX1_isNone 90 S) fun r_6 S_5 =>
  (if r_6 = 0 then (if 0 < (lg_cmp (S_5.2 90 0) 0) then (fX4_holdsMiddle_26 fX4_holdsMiddle_27) S_5 else fX4_holdsMiddle_27 1 S_5) else (fX4_holdsMiddle_26 fX4_holdsMiddle_27) S_5)
abbrev rmX4_holdsMiddle : Room := { frames := 2, cells := 0, slots := 0, locals := 43 }
theorem yd_X4_holdsMiddle : yX4_holdsMiddle.cls = RX4 ∧ yX4_holdsMiddle.cls ≠ "java/lang/invoke/MethodHandle" ∧ yX4_holdsMiddle.cls ≠ "java/lang/invoke/VarHandle" ∧ (parseMethodDescriptor yX4_holdsMiddle.desc).map (fun d => d.parameters.length) = some 0 := by decide +kernel
set_option maxRecDepth 100000 in
set_option maxHeartbeats 4000000 in
theorem ctX4_holdsMiddle {l : Launch} {dC : Nat → ClassId} {dI : Nat → Nat → Nat} {cI : ClassId × ClassId} {cW : List zSh} {q : Nat → Nat} (hq : zI cW q) (hW : zIs cI cW) {S : zT} {o : Int32 × zT} (h : fX4_holdsMiddle S = some o) : zCi l dC dI cI cW q yX4_holdsMiddle (Cond.code yX4_holdsMiddle cX4_holdsMiddle 6 (some .boolean) :: zU) rmX4_holdsMiddle [.ref (q 81)] S o := by
  refine zMet_i (lv := [(0, .ref (q 81))]) (by decide) (Nat.le_of_ble_eq_true rfl) rfl ?_
  intro p e s m args below meth c Q hx hb hml hr hU hown hlocks hK hN hP hS ls hl hQ
  replace hown : s.vm.findClass RX4 = some m.cls := hown
  unfold fX4_holdsMiddle at h
  have L27 : ∀ (t0 : Int32) (S : zT) (H : Heap) (locs : List Loc) (ls : Array Slot), va_P (dC, dI) vwCl (zWd cI cW q S) H → va_S (zA cW q) s.heap H locs → lv_has ls 6 [(0, .ref (q 81))] → fX4_holdsMiddle_27 t0 S = some o → W p l e rmX4_holdsMiddle s m args below meth c H locs 0 0 Q (F0 m 27 ls [.int t0]) := by
    intro t0 S H locs ls hP hS hl h
    unfold fX4_holdsMiddle_27 at h
    have L55 : ∀ (x1 : Int32) (t0 : Int32) (S : zT) (H : Heap) (locs : List Loc) (ls : Array Slot), va_P (dC, dI) vwCl (zWd cI cW q S) H → va_S (zA cW q) s.heap H locs → lv_has ls 6 [(0, .ref (q 81)), (1, .int x1)] → fX4_holdsMiddle_55 x1 t0 S = some o → W p l e rmX4_holdsMiddle s m args below meth c H locs 0 0 Q (F0 m 55 ls [.int t0]) := by
      intro x1 t0 S H locs ls hP hS hl h
      unfold fX4_holdsMiddle_55 at h
      have L58 : ∀ (n58 : Nat) (x1 : Int32) (x2 : Int32) (x3 : Int32) (S : zT) (H : Heap) (locs : List Loc) (ls : Array Slot), va_P (dC, dI) vwCl (zWd cI cW q S) H → va_S (zA cW q) s.heap H locs → lv_has ls 6 [(0, .ref (q 81)), (1, .int x1), (2, .int x2), (3, .int x3)] → (zfix (fun _ _ _ _ => none) fX4_holdsMiddle_58 n58) x1 x2 x3 S = some o → W p l e rmX4_holdsMiddle s m args below meth c H locs 0 0 Q (F0 m 58 ls []) := by
        intro n58
        induction n58 with
        | zero => intro x1 x2 x3 S H locs ls hP hS hl h; exact zno (show (none : Option (Int32 × zT)) = some o from h)
        | succ n58 ih58 =>
          intro x1 x2 x3 S H locs ls hP hS hl h
          replace h : fX4_holdsMiddle_58 (zfix (fun _ _ _ _ => none) fX4_holdsMiddle_58 n58) x1 x2 x3 S = some o := h
          unfold fX4_holdsMiddle_58 at h
          have L137 : ∀ (x1 : Int32) (x2 : Int32) (S : zT) (H : Heap) (locs : List Loc) (ls : Array Slot), va_P (dC, dI) vwCl (zWd cI cW q S) H → va_S (zA cW q) s.heap H locs → lv_has ls 6 [(1, .int x1), (2, .int x2)] → fX4_holdsMiddle_137 x1 x2 S = some o → W p l e rmX4_holdsMiddle s m args below meth c H locs 0 0 Q (F0 m 137 ls []) := by
            intro x1 x2 S H locs ls hP hS hl h
            unfold fX4_holdsMiddle_137 at h
            refine lv_iload_n hx hb dX4_holdsMiddle_137 rfl (lv_at hl 0 rfl) ?_
            refine z_if_eq (tgt := 149) hx hb dX4_holdsMiddle_138 (by decide) h (fun h => ?_) (fun h => ?_)
            · refine lv_iconst (v := 0) hx hb dX4_holdsMiddle_149 rfl ?_
              exact z_zretC hx hb hlocks hP hS hQ hr dX4_holdsMiddle_150 (Or.inl rfl) h
            · refine lv_iload_n hx hb dX4_holdsMiddle_141 rfl (lv_at hl 1 rfl) ?_
              refine z_if_eq (tgt := 149) hx hb dX4_holdsMiddle_142 (by decide) h (fun h => ?_) (fun h => ?_)
              · refine lv_iconst (v := 0) hx hb dX4_holdsMiddle_149 rfl ?_
                exact z_zretC hx hb hlocks hP hS hQ hr dX4_holdsMiddle_150 (Or.inl rfl) h
              · refine lv_iconst (v := 1) hx hb dX4_holdsMiddle_145 rfl ?_
                refine lv_goto (tgt := 150) hx hb dX4_holdsMiddle_146 (by decide) ?_
                exact z_zretC hx hb hlocks hP hS hQ hr dX4_holdsMiddle_150 (Or.inr rfl) h
          have L74 : ∀ (x1 : Int32) (x2 : Int32) (x3 : Int32) (S : zT) (H : Heap) (locs : List Loc) (ls : Array Slot), va_P (dC, dI) vwCl (zWd cI cW q S) H → va_S (zA cW q) s.heap H locs → lv_has ls 6 [(0, .ref (q 81)), (1, .int x1), (2, .int x2), (3, .int x3)] → (fX4_holdsMiddle_74 (zfix (fun _ _ _ _ => none) fX4_holdsMiddle_58 n58)) x1 x2 x3 S = some o → W p l e rmX4_holdsMiddle s m args below meth c H locs 0 0 Q (F0 m 74 ls []) := by
            intro x1 x2 x3 S H locs ls hP hS hl h
            unfold fX4_holdsMiddle_74 at h
            have L77 : ∀ (n77 : Nat) (x1 : Int32) (x2 : Int32) (x3 : Int32) (x4 : Int32) (S : zT) (H : Heap) (locs : List Loc) (ls : Array Slot), va_P (dC, dI) vwCl (zWd cI cW q S) H → va_S (zA cW q) s.heap H locs → lv_has ls 6 [(0, .ref (q 81)), (1, .int x1), (2, .int x2), (3, .int x3), (4, .int x4)] → (zfix (fun _ _ _ _ _ => none) (fX4_holdsMiddle_77 (zfix (fun _ _ _ _ => none) fX4_holdsMiddle_58 n58)) n77) x1 x2 x3 x4 S = some o → W p l e rmX4_holdsMiddle s m args below meth c H locs 0 0 Q (F0 m 77 ls []) := by
              intro n77
              induction n77 with
              | zero => intro x1 x2 x3 x4 S H locs ls hP hS hl h; exact zno (show (none : Option (Int32 × zT)) = some o from h)
              | succ n77 ih77 =>
                intro x1 x2 x3 x4 S H locs ls hP hS hl h
                replace h : fX4_holdsMiddle_77 (zfix (fun _ _ _ _ => none) fX4_holdsMiddle_58 n58) (zfix (fun _ _ _ _ _ => none) (fX4_holdsMiddle_77 (zfix (fun _ _ _ _ => none) fX4_holdsMiddle_58 n58)) n77) x1 x2 x3 x4 S = some o := h
                unfold fX4_holdsMiddle_77 at h
                have L109 : ∀ (x2 : Int32) (x3 : Int32) (x4 : Int32) (x5 : Int32) (t0 : Int32) (S : zT) (H : Heap) (locs : List Loc) (ls : Array Slot), va_P (dC, dI) vwCl (zWd cI cW q S) H → va_S (zA cW q) s.heap H locs → lv_has ls 6 [(0, .ref (q 81)), (2, .int x2), (3, .int x3), (4, .int x4), (5, .int x5)] → (fX4_holdsMiddle_109 (zfix (fun _ _ _ _ _ => none) (fX4_holdsMiddle_77 (zfix (fun _ _ _ _ => none) fX4_holdsMiddle_58 n58)) n77)) x2 x3 x4 x5 t0 S = some o → W p l e rmX4_holdsMiddle s m args below meth c H locs 0 0 Q (F0 m 109 ls [.int t0]) := by
                  intro x2 x3 x4 x5 t0 S H locs ls hP hS hl h
                  unfold fX4_holdsMiddle_109 at h
                  have L124 : ∀ (x1 : Int32) (x3 : Int32) (x4 : Int32) (t0 : Int32) (S : zT) (H : Heap) (locs : List Loc) (ls : Array Slot), va_P (dC, dI) vwCl (zWd cI cW q S) H → va_S (zA cW q) s.heap H locs → lv_has ls 6 [(0, .ref (q 81)), (1, .int x1), (3, .int x3), (4, .int x4)] → (fX4_holdsMiddle_124 (zfix (fun _ _ _ _ _ => none) (fX4_holdsMiddle_77 (zfix (fun _ _ _ _ => none) fX4_holdsMiddle_58 n58)) n77)) x1 x3 x4 t0 S = some o → W p l e rmX4_holdsMiddle s m args below meth c H locs 0 0 Q (F0 m 124 ls [.int t0]) := by
                    intro x1 x3 x4 t0 S H locs ls hP hS hl h
                    unfold fX4_holdsMiddle_124 at h
                    refine lv_istore_n (lv' := [(2, .int t0), (0, .ref (q 81)), (1, .int x1), (3, .int x3), (4, .int x4)]) hx hb dX4_holdsMiddle_124 rfl hl (by decide) rfl (fun ls hl => ?_)
                    refine lv_iinc (v := (x4 + 1)) (lv' := [(4, .int (x4 + 1)), (2, .int t0), (0, .ref (q 81)), (1, .int x1), (3, .int x3)]) hx hb dX4_holdsMiddle_125 hl (k := 4) rfl rfl (by decide) rfl (fun ls hl => ?_)
                    refine lv_goto (tgt := 77) hx hb dX4_holdsMiddle_128 (by decide) ?_
                    exact ih77 x1 t0 x3 (x4 + 1) _ _ _ ls hP hS (lv_sub hl [2, 3, 1, 4, 0] rfl) h
                  have L119 : ∀ (x1 : Int32) (x3 : Int32) (x4 : Int32) (S : zT) (H : Heap) (locs : List Loc) (ls : Array Slot), va_P (dC, dI) vwCl (zWd cI cW q S) H → va_S (zA cW q) s.heap H locs → lv_has ls 6 [(0, .ref (q 81)), (1, .int x1), (3, .int x3), (4, .int x4)] → (fX4_holdsMiddle_119 (fX4_holdsMiddle_124 (zfix (fun _ _ _ _ _ => none) (fX4_holdsMiddle_77 (zfix (fun _ _ _ _ => none) fX4_holdsMiddle_58 n58)) n77))) x1 x3 x4 S = some o → W p l e rmX4_holdsMiddle s m args below meth c H locs 0 0 Q (F0 m 119 ls []) := by
                    intro x1 x3 x4 S H locs ls hP hS hl h
                    unfold fX4_holdsMiddle_119 at h
                    refine lv_iconst (v := 1) hx hb dX4_holdsMiddle_119 rfl ?_
                    refine lv_goto (tgt := 124) hx hb dX4_holdsMiddle_120 (by decide) ?_
                    exact L124 x1 x3 x4 1 _ _ _ ls hP hS (lv_sub hl [0, 1, 2, 3] rfl) h
                  refine lv_istore_n (lv' := [(1, .int t0), (0, .ref (q 81)), (2, .int x2), (3, .int x3), (4, .int x4), (5, .int x5)]) hx hb dX4_holdsMiddle_109 rfl hl (by decide) rfl (fun ls hl => ?_)
                  refine lv_iload_n hx hb dX4_holdsMiddle_110 rfl (lv_at hl 2 rfl) ?_
                  refine z_if_ne (tgt := 119) hx hb dX4_holdsMiddle_111 (by decide) h (fun h => ?_) (fun h => ?_)
                  · exact L119 t0 x3 x4 _ _ _ ls hP hS (lv_sub hl [1, 0, 3, 4] rfl) h
                  · refine lv_iload hx hb dX4_holdsMiddle_114 (lv_at hl 5 rfl) ?_
                    refine z_if_lt (tgt := 123) hx hb dX4_holdsMiddle_116 (by decide) h (fun h => ?_) (fun h => ?_)
                    · refine lv_iconst (v := 0) hx hb dX4_holdsMiddle_123 rfl ?_
                      exact L124 t0 x3 x4 0 _ _ _ ls hP hS (lv_sub hl [1, 0, 3, 4] rfl) h
                    · exact L119 t0 x3 x4 _ _ _ ls hP hS (lv_sub hl [1, 0, 3, 4] rfl) h
                have L104 : ∀ (x2 : Int32) (x3 : Int32) (x4 : Int32) (x5 : Int32) (S : zT) (H : Heap) (locs : List Loc) (ls : Array Slot), va_P (dC, dI) vwCl (zWd cI cW q S) H → va_S (zA cW q) s.heap H locs → lv_has ls 6 [(0, .ref (q 81)), (2, .int x2), (3, .int x3), (4, .int x4), (5, .int x5)] → (fX4_holdsMiddle_104 (fX4_holdsMiddle_109 (zfix (fun _ _ _ _ _ => none) (fX4_holdsMiddle_77 (zfix (fun _ _ _ _ => none) fX4_holdsMiddle_58 n58)) n77))) x2 x3 x4 x5 S = some o → W p l e rmX4_holdsMiddle s m args below meth c H locs 0 0 Q (F0 m 104 ls []) := by
                  intro x2 x3 x4 x5 S H locs ls hP hS hl h
                  unfold fX4_holdsMiddle_104 at h
                  refine lv_iconst (v := 1) hx hb dX4_holdsMiddle_104 rfl ?_
                  refine lv_goto (tgt := 109) hx hb dX4_holdsMiddle_105 (by decide) ?_
                  exact L109 x2 x3 x4 x5 1 _ _ _ ls hP hS (lv_sub hl [0, 1, 2, 3, 4] rfl) h
                refine lv_iload hx hb dX4_holdsMiddle_77 (lv_at hl 4 rfl) ?_
                refine lv_aload_n hx hb dX4_holdsMiddle_79 rfl (lv_at hl 0 rfl) ?_
                refine z_get hx hb hU uU_X4 hown hK hP (p_81 hW) rfl rfl 5 (by decide) (hU _ uF_X4_46) rfl dX4_holdsMiddle_80 ?_
                refine z_icmp_ge (tgt := 131) hx hb dX4_holdsMiddle_83 (by decide) h (fun h => ?_) (fun h => ?_)
                · refine lv_iinc (v := (x3 + 1)) (lv' := [(3, .int (x3 + 1)), (0, .ref (q 81)), (1, .int x1), (2, .int x2), (4, .int x4)]) hx hb dX4_holdsMiddle_131 hl (k := 3) rfl rfl (by decide) rfl (fun ls hl => ?_)
                  refine lv_goto (tgt := 58) hx hb dX4_holdsMiddle_134 (by decide) ?_
                  exact ih58 x1 x2 (x3 + 1) _ _ _ ls hP hS (lv_sub hl [1, 2, 3, 0] rfl) h
                · refine lv_aload_n hx hb dX4_holdsMiddle_86 rfl (lv_at hl 0 rfl) ?_
                  refine lv_iload_n hx hb dX4_holdsMiddle_87 rfl (lv_at hl 3 rfl) ?_
                  refine lv_iload hx hb dX4_holdsMiddle_88 (lv_at hl 4 rfl) ?_
                  refine z_callV_i hx hb hml hown hU hK hN hP hS 2 (p_81 hW) rfl rfl (zU_V uL_X4_71 uI_X4_heightAbove uS_X4_heightAbove uN_X4 uC_X4_heightAbove) yd_X4_heightAbove ⟨rfl, rfl⟩ ⟨Nat.le_of_ble_eq_true rfl, Nat.le_of_ble_eq_true rfl⟩ (As := [.int x3, .int x4]) (fun o h9 => ctX4_heightAbove hq hW h9) rfl hl.1 rfl (Nat.le_of_ble_eq_true rfl) dX4_holdsMiddle_90 ⟨Nat.zero_le _, Nat.zero_le _⟩ h (fun r_2 S_1 H locs hP hS h => ?_)
                  refine lv_istore (lv' := [(5, .int r_2), (0, .ref (q 81)), (1, .int x1), (2, .int x2), (3, .int x3), (4, .int x4)]) hx hb dX4_holdsMiddle_93 hl (by decide) rfl (fun ls hl => ?_)
                  refine lv_iload_n hx hb dX4_holdsMiddle_95 rfl (lv_at hl 2 rfl) ?_
                  refine z_if_ne (tgt := 104) hx hb dX4_holdsMiddle_96 (by decide) h (fun h => ?_) (fun h => ?_)
                  · exact L104 x2 x3 x4 r_2 _ _ _ ls hP hS (lv_sub hl [1, 3, 4, 5, 0] rfl) h
                  · refine lv_iload hx hb dX4_holdsMiddle_99 (lv_at hl 0 rfl) ?_
                    refine z_if_gt (tgt := 108) hx hb dX4_holdsMiddle_101 (by decide) h (fun h => ?_) (fun h => ?_)
                    · refine lv_iconst (v := 0) hx hb dX4_holdsMiddle_108 rfl ?_
                      exact L109 x2 x3 x4 r_2 0 _ _ _ ls hP hS (lv_sub hl [1, 3, 4, 5, 0] rfl) h
                    · exact L104 x2 x3 x4 r_2 _ _ _ ls hP hS (lv_sub hl [1, 3, 4, 5, 0] rfl) h
            refine lv_iconst (v := 0) hx hb dX4_holdsMiddle_74 rfl ?_
            refine lv_istore (lv' := [(4, .int 0), (0, .ref (q 81)), (1, .int x1), (2, .int x2), (3, .int x3)]) hx hb dX4_holdsMiddle_75 hl (by decide) rfl (fun ls hl => ?_)
            exact L77 zF x1 x2 x3 0 _ _ _ ls hP hS (lv_sub hl [1, 2, 3, 4, 0] rfl) h
          refine lv_iload_n hx hb dX4_holdsMiddle_58 rfl (lv_at hl 3 rfl) ?_
          refine lv_aload_n hx hb dX4_holdsMiddle_59 rfl (lv_at hl 0 rfl) ?_
          refine z_get hx hb hU uU_X4 hown hK hP (p_81 hW) rfl rfl 4 (by decide) (hU _ uF_X4_42) rfl dX4_holdsMiddle_60 ?_
          refine z_icmp_ge (tgt := 137) hx hb dX4_holdsMiddle_63 (by decide) h (fun h => ?_) (fun h => ?_)
          · exact L137 x1 x2 _ _ _ ls hP hS (lv_sub hl [1, 2] rfl) h
          · refine lv_iload_n hx hb dX4_holdsMiddle_66 rfl (lv_at hl 1 rfl) ?_
            refine z_if_eq (tgt := 74) hx hb dX4_holdsMiddle_67 (by decide) h (fun h => ?_) (fun h => ?_)
            · exact L74 x1 x2 x3 _ _ _ ls hP hS (lv_sub hl [0, 1, 2, 3] rfl) h
            · refine lv_iload_n hx hb dX4_holdsMiddle_70 rfl (lv_at hl 2 rfl) ?_
              refine z_if_ne (tgt := 137) hx hb dX4_holdsMiddle_71 (by decide) h (fun h => ?_) (fun h => ?_)
              · exact L137 x1 x2 _ _ _ ls hP hS (lv_sub hl [1, 2] rfl) h
              · exact L74 x1 x2 x3 _ _ _ ls hP hS (lv_sub hl [0, 1, 2, 3] rfl) h
      refine lv_istore_n (lv' := [(2, .int t0), (0, .ref (q 81)), (1, .int x1)]) hx hb dX4_holdsMiddle_55 rfl hl (by decide) rfl (fun ls hl => ?_)
      refine lv_iconst (v := 0) hx hb dX4_holdsMiddle_56 rfl ?_
      refine lv_istore_n (lv' := [(3, .int 0), (2, .int t0), (0, .ref (q 81)), (1, .int x1)]) hx hb dX4_holdsMiddle_57 rfl hl (by decide) rfl (fun ls hl => ?_)
      exact L58 zF x1 t0 0 _ _ _ ls hP hS (lv_sub hl [2, 3, 1, 0] rfl) h
    have L54 : ∀ (x1 : Int32) (S : zT) (H : Heap) (locs : List Loc) (ls : Array Slot), va_P (dC, dI) vwCl (zWd cI cW q S) H → va_S (zA cW q) s.heap H locs → lv_has ls 6 [(0, .ref (q 81)), (1, .int x1)] → (fX4_holdsMiddle_54 fX4_holdsMiddle_55) x1 S = some o → W p l e rmX4_holdsMiddle s m args below meth c H locs 0 0 Q (F0 m 54 ls []) := by
      intro x1 S H locs ls hP hS hl h
      unfold fX4_holdsMiddle_54 at h
      refine lv_iconst (v := 0) hx hb dX4_holdsMiddle_54 rfl ?_
      exact L55 x1 0 _ _ _ ls hP hS (lv_sub hl [0, 1] rfl) h
    refine lv_istore_n (lv' := [(1, .int t0), (0, .ref (q 81))]) hx hb dX4_holdsMiddle_27 rfl hl (by decide) rfl (fun ls hl => ?_)
    refine lv_aload_n hx hb dX4_holdsMiddle_28 rfl (lv_at hl 1 rfl) ?_
    refine z_get hx hb hU uU_X4 hown hK hP (p_81 hW) rfl rfl 7 (by decide) (hU _ uF_X4_36) rfl dX4_holdsMiddle_29 ?_
    refine z_callV_i hx hb hml hown hU hK hN hP hS 0 (pT_91 hW) rfl rfl (zU_V uL_X4_63 uI_X1_isNone uS_X1_isNone uN_X1 uC_X1_isNone) yd_X1_isNone ⟨rfl, rfl⟩ ⟨Nat.le_of_ble_eq_true rfl, Nat.le_of_ble_eq_true rfl⟩ (As := []) (fun o h9 => ctX1_isNone hq (pT_91 hW) h9) rfl hl.1 rfl (Nat.le_of_ble_eq_true rfl) dX4_holdsMiddle_32 ⟨Nat.zero_le _, Nat.zero_le _⟩ h (fun r_4 S_3 H locs hP hS h => ?_)
    refine z_if_ne (tgt := 54) hx hb dX4_holdsMiddle_35 (by decide) h (fun h => ?_) (fun h => ?_)
    · exact L54 t0 _ _ _ ls hP hS (lv_sub hl [1, 0] rfl) h
    · refine lv_aload_n hx hb dX4_holdsMiddle_38 rfl (lv_at hl 1 rfl) ?_
      refine z_get hx hb hU uU_X4 hown hK hP (p_81 hW) rfl rfl 7 (by decide) (hU _ uF_X4_36) rfl dX4_holdsMiddle_39 ?_
      refine z_get hx hb hU uU_X1 hown hK hP (pT_91 hW) rfl rfl 0 (by decide) (hU _ uF_X4_67) rfl dX4_holdsMiddle_42 ?_
      refine lv_lconst (v := 0) hx hb dX4_holdsMiddle_45 rfl ?_
      refine W.lcmp hx hb dX4_holdsMiddle_46 ?_
      refine z_if_lt (tgt := 54) hx hb dX4_holdsMiddle_47 (by decide) h (fun h => ?_) (fun h => ?_)
      · exact L54 t0 _ _ _ ls hP hS (lv_sub hl [1, 0] rfl) h
      · refine lv_iconst (v := 1) hx hb dX4_holdsMiddle_50 rfl ?_
        refine lv_goto (tgt := 55) hx hb dX4_holdsMiddle_51 (by decide) ?_
        exact L55 t0 1 _ _ _ ls hP hS (lv_sub hl [1, 0] rfl) h
  have L26 : ∀ (S : zT) (H : Heap) (locs : List Loc) (ls : Array Slot), va_P (dC, dI) vwCl (zWd cI cW q S) H → va_S (zA cW q) s.heap H locs → lv_has ls 6 [(0, .ref (q 81))] → (fX4_holdsMiddle_26 fX4_holdsMiddle_27) S = some o → W p l e rmX4_holdsMiddle s m args below meth c H locs 0 0 Q (F0 m 26 ls []) := by
    intro S H locs ls hP hS hl h
    unfold fX4_holdsMiddle_26 at h
    refine lv_iconst (v := 0) hx hb dX4_holdsMiddle_26 rfl ?_
    exact L27 0 _ _ _ ls hP hS (lv_sub hl [0] rfl) h
  refine lv_aload_n hx hb dX4_holdsMiddle_0 rfl (lv_at hl 0 rfl) ?_
  refine z_get hx hb hU uU_X4 hown hK hP (p_81 hW) rfl rfl 6 (by decide) (hU _ uF_X4_32) rfl dX4_holdsMiddle_1 ?_
  refine z_callV_i hx hb hml hown hU hK hN hP hS 0 (pT_90 hW) rfl rfl (zU_V uL_X4_63 uI_X1_isNone uS_X1_isNone uN_X1 uC_X1_isNone) yd_X1_isNone ⟨rfl, rfl⟩ ⟨Nat.le_of_ble_eq_true rfl, Nat.le_of_ble_eq_true rfl⟩ (As := []) (fun o h9 => ctX1_isNone hq (pT_90 hW) h9) rfl hl.1 rfl (Nat.le_of_ble_eq_true rfl) dX4_holdsMiddle_4 ⟨Nat.zero_le _, Nat.zero_le _⟩ h (fun r_6 S_5 H locs hP hS h => ?_)
  refine z_if_ne (tgt := 26) hx hb dX4_holdsMiddle_7 (by decide) h (fun h => ?_) (fun h => ?_)
  · exact L26  _ _ _ ls hP hS (lv_sub hl [0] rfl) h
  · refine lv_aload_n hx hb dX4_holdsMiddle_10 rfl (lv_at hl 0 rfl) ?_
    refine z_get hx hb hU uU_X4 hown hK hP (p_81 hW) rfl rfl 6 (by decide) (hU _ uF_X4_32) rfl dX4_holdsMiddle_11 ?_
    refine z_get hx hb hU uU_X1 hown hK hP (pT_90 hW) rfl rfl 0 (by decide) (hU _ uF_X4_67) rfl dX4_holdsMiddle_14 ?_
    refine lv_lconst (v := 0) hx hb dX4_holdsMiddle_17 rfl ?_
    refine W.lcmp hx hb dX4_holdsMiddle_18 ?_
    refine z_if_gt (tgt := 26) hx hb dX4_holdsMiddle_19 (by decide) h (fun h => ?_) (fun h => ?_)
    · exact L26  _ _ _ ls hP hS (lv_sub hl [0] rfl) h
    · refine lv_iconst (v := 1) hx hb dX4_holdsMiddle_22 rfl ?_
      refine lv_goto (tgt := 27) hx hb dX4_holdsMiddle_23 (by decide) ?_
      exact L27 1 _ _ _ ls hP hS (lv_sub hl [0] rfl) h

def fX5_isSteadyAt (a1 : Int32) (S : zT) : Option (Int32 × zT) :=
  zbi (fX2_at (68 + 5) 16 a1 S) fun r_2 S_1 =>
  (if r_2 = 0 then (if (S_1.1 68 1) = 1 then zbi (fX5_isShortHop a1 S_1) fun r_11 S_10 =>
  (if r_11 = 0 then some (0, S_10) else some (1, S_10)) else some (0, S_1)) else (if (S_1.1 67 4) = 0 then zbi (fX5_fitsKind r_2 S_1) fun r_4 S_3 =>
  (if r_4 = 0 then some (0, S_3) else zbv (fX5_gatherFeet a1 S_3) fun S_5 =>
  zbi (fX4_holdsMiddle S_5) fun r_7 S_6 =>
  if r_7 = 0 ∨ r_7 = 1 then some (r_7, S_6) else none) else zbi (fX5_isSound r_2 S_1) fun r_9 S_8 =>
  if r_9 = 0 ∨ r_9 = 1 then some (r_9, S_8) else none))
abbrev rmX5_isSteadyAt : Room := { frames := 3, cells := 0, slots := 0, locals := 68 }
theorem yd_X5_isSteadyAt : yX5_isSteadyAt.cls = RX5 ∧ yX5_isSteadyAt.cls ≠ "java/lang/invoke/MethodHandle" ∧ yX5_isSteadyAt.cls ≠ "java/lang/invoke/VarHandle" ∧ (parseMethodDescriptor yX5_isSteadyAt.desc).map (fun d => d.parameters.length) = some 1 := by decide +kernel
set_option maxRecDepth 100000 in
set_option maxHeartbeats 4000000 in
theorem ctX5_isSteadyAt {l : Launch} {dC : Nat → ClassId} {dI : Nat → Nat → Nat} {cI : ClassId × ClassId} {cW : List zSh} {q : Nat → Nat} (hq : zI cW q) (hW : zIs cI cW) {a1 : Int32} {S : zT} {o : Int32 × zT} (h : fX5_isSteadyAt a1 S = some o) : zCi l dC dI cI cW q yX5_isSteadyAt (Cond.code yX5_isSteadyAt cX5_isSteadyAt 3 (some .boolean) :: zU) rmX5_isSteadyAt [.ref (q 67), .int a1] S o := by
  refine zMet_i (lv := [(0, .ref (q 67)), (1, .int a1)]) (by decide) (Nat.le_of_ble_eq_true rfl) rfl ?_
  intro p e s m args below meth c Q hx hb hml hr hU hown hlocks hK hN hP hS ls hl hQ
  replace hown : s.vm.findClass RX5 = some m.cls := hown
  unfold fX5_isSteadyAt at h
  refine lv_aload_n hx hb dX5_isSteadyAt_0 rfl (lv_at hl 0 rfl) ?_
  refine z_get hx hb hU uU_X5 hown hK hP (p_67 hW) rfl rfl 0 (by decide) (hU _ uF_X5_12) rfl dX5_isSteadyAt_1 ?_
  refine z_get hx hb hU uU_X6 hown hK hP (pW_68 hW).1 rfl rfl 9 (by decide) (hU _ uF_X5_114) rfl dX5_isSteadyAt_4 ?_
  refine lv_iload_n hx hb dX5_isSteadyAt_7 rfl (lv_at hl 1 rfl) ?_
  refine z_callV_i hx hb hml hown hU hK hN hP hS 1 (pW_68 hW).2.2.2.1 rfl rfl (zU_V uL_X5_70 uI_X2_at uS_X2_at uN_X2 uC_X2_at) yd_X2_at ⟨rfl, rfl⟩ ⟨Nat.le_of_ble_eq_true rfl, Nat.le_of_ble_eq_true rfl⟩ (As := [.int a1]) (fun o h9 => ctX2_at hq (pW_68 hW).2.2.2 h9) rfl hl.1 rfl (Nat.le_of_ble_eq_true rfl) dX5_isSteadyAt_8 ⟨Nat.zero_le _, Nat.zero_le _⟩ h (fun r_2 S_1 H locs hP hS h => ?_)
  refine lv_istore_n (lv' := [(2, .int r_2), (0, .ref (q 67)), (1, .int a1)]) hx hb dX5_isSteadyAt_11 rfl hl (by decide) rfl (fun ls hl => ?_)
  refine lv_iload_n hx hb dX5_isSteadyAt_12 rfl (lv_at hl 0 rfl) ?_
  refine z_if_ne (tgt := 41) hx hb dX5_isSteadyAt_13 (by decide) h (fun h => ?_) (fun h => ?_)
  · refine lv_aload_n hx hb dX5_isSteadyAt_41 rfl (lv_at hl 1 rfl) ?_
    refine z_get hx hb hU uU_X5 hown hK hP (p_67 hW) rfl rfl 4 (by decide) (hU _ uF_X5_47) rfl dX5_isSteadyAt_42 ?_
    refine z_if_eq (tgt := 54) hx hb dX5_isSteadyAt_45 (by decide) h (fun h => ?_) (fun h => ?_)
    · refine lv_aload_n hx hb dX5_isSteadyAt_54 rfl (lv_at hl 1 rfl) ?_
      refine lv_iload_n hx hb dX5_isSteadyAt_55 rfl (lv_at hl 0 rfl) ?_
      refine z_callV_i hx hb hml hown hU hK hN hP hS 1 (p_67 hW) rfl rfl (zU_V uL_X5_126 uI_X5_fitsKind uS_X5_fitsKind uN_X5 uC_X5_fitsKind) yd_X5_fitsKind ⟨rfl, rfl⟩ ⟨Nat.le_of_ble_eq_true rfl, Nat.le_of_ble_eq_true rfl⟩ (As := [.int r_2]) (fun o h9 => ctX5_fitsKind hq hW h9) rfl hl.1 rfl (Nat.le_of_ble_eq_true rfl) dX5_isSteadyAt_56 ⟨Nat.zero_le _, Nat.zero_le _⟩ h (fun r_4 S_3 H locs hP hS h => ?_)
      refine z_if_ne (tgt := 64) hx hb dX5_isSteadyAt_59 (by decide) h (fun h => ?_) (fun h => ?_)
      · refine lv_aload_n hx hb dX5_isSteadyAt_64 rfl (lv_at hl 1 rfl) ?_
        refine lv_iload_n hx hb dX5_isSteadyAt_65 rfl (lv_at hl 2 rfl) ?_
        refine z_callV_v hx hb hml hown hU hK hN hP hS 1 (p_67 hW) rfl rfl (zU_V uL_X5_129 uI_X5_gatherFeet uS_X5_gatherFeet uN_X5 uC_X5_gatherFeet) yd_X5_gatherFeet ⟨rfl, rfl⟩ ⟨Nat.le_of_ble_eq_true rfl, Nat.le_of_ble_eq_true rfl⟩ (As := [.int a1]) (fun o h9 => ctX5_gatherFeet hq hW h9) rfl hl.1 rfl (Nat.le_of_ble_eq_true rfl) dX5_isSteadyAt_66 ⟨Nat.zero_le _, Nat.zero_le _⟩ h (fun S_5 H locs hP hS h => ?_)
        refine lv_aload_n hx hb dX5_isSteadyAt_69 rfl (lv_at hl 1 rfl) ?_
        refine z_get hx hb hU uU_X5 hown hK hP (p_67 hW) rfl rfl 5 (by decide) (hU _ uF_X5_36) rfl dX5_isSteadyAt_70 ?_
        refine z_callV_i hx hb hml hown hU hK hN hP hS 0 (p_81 hW) rfl rfl (zU_V uL_X5_132 uI_X4_holdsMiddle uS_X4_holdsMiddle uN_X4 uC_X4_holdsMiddle) yd_X4_holdsMiddle ⟨rfl, rfl⟩ ⟨Nat.le_of_ble_eq_true rfl, Nat.le_of_ble_eq_true rfl⟩ (As := []) (fun o h9 => ctX4_holdsMiddle hq hW h9) rfl hl.1 rfl (Nat.le_of_ble_eq_true rfl) dX5_isSteadyAt_73 ⟨Nat.zero_le _, Nat.zero_le _⟩ h (fun r_7 S_6 H locs hP hS h => ?_)
        exact z_zret hx hb hlocks hP hS hQ hr dX5_isSteadyAt_76 h
      · refine lv_iconst (v := 0) hx hb dX5_isSteadyAt_62 rfl ?_
        exact z_zretC hx hb hlocks hP hS hQ hr dX5_isSteadyAt_63 (Or.inl rfl) h
    · refine lv_aload_n hx hb dX5_isSteadyAt_48 rfl (lv_at hl 1 rfl) ?_
      refine lv_iload_n hx hb dX5_isSteadyAt_49 rfl (lv_at hl 0 rfl) ?_
      refine z_callV_i hx hb hml hown hU hK hN hP hS 1 (p_67 hW) rfl rfl (zU_V uL_X5_123 uI_X5_isSound uS_X5_isSound uN_X5 uC_X5_isSound) yd_X5_isSound ⟨rfl, rfl⟩ ⟨Nat.le_of_ble_eq_true rfl, Nat.le_of_ble_eq_true rfl⟩ (As := [.int r_2]) (fun o h9 => ctX5_isSound hq hW h9) rfl hl.1 rfl (Nat.le_of_ble_eq_true rfl) dX5_isSteadyAt_50 ⟨Nat.zero_le _, Nat.zero_le _⟩ h (fun r_9 S_8 H locs hP hS h => ?_)
      exact z_zret hx hb hlocks hP hS hQ hr dX5_isSteadyAt_53 h
  · refine lv_aload_n hx hb dX5_isSteadyAt_16 rfl (lv_at hl 1 rfl) ?_
    refine z_get hx hb hU uU_X5 hown hK hP (p_67 hW) rfl rfl 0 (by decide) (hU _ uF_X5_12) rfl dX5_isSteadyAt_17 ?_
    refine z_get hx hb hU uU_X6 hown hK hP (pW_68 hW).1 rfl rfl 1 (by decide) (hU _ uF_X5_117) rfl dX5_isSteadyAt_20 ?_
    refine lv_iconst (v := 1) hx hb dX5_isSteadyAt_23 rfl ?_
    refine z_icmp_ne (tgt := 39) hx hb dX5_isSteadyAt_24 (by decide) h (fun h => ?_) (fun h => ?_)
    · refine lv_iconst (v := 0) hx hb dX5_isSteadyAt_39 rfl ?_
      exact z_zretC hx hb hlocks hP hS hQ hr dX5_isSteadyAt_40 (Or.inl rfl) h
    · refine lv_aload_n hx hb dX5_isSteadyAt_27 rfl (lv_at hl 1 rfl) ?_
      refine lv_iload_n hx hb dX5_isSteadyAt_28 rfl (lv_at hl 2 rfl) ?_
      refine z_callV_i hx hb hml hown hU hK hN hP hS 1 (p_67 hW) rfl rfl (zU_V uL_X5_120 uI_X5_isShortHop uS_X5_isShortHop uN_X5 uC_X5_isShortHop) yd_X5_isShortHop ⟨rfl, rfl⟩ ⟨Nat.le_of_ble_eq_true rfl, Nat.le_of_ble_eq_true rfl⟩ (As := [.int a1]) (fun o h9 => ctX5_isShortHop hq hW h9) rfl hl.1 rfl (Nat.le_of_ble_eq_true rfl) dX5_isSteadyAt_29 ⟨Nat.zero_le _, Nat.zero_le _⟩ h (fun r_11 S_10 H locs hP hS h => ?_)
      refine z_if_eq (tgt := 39) hx hb dX5_isSteadyAt_32 (by decide) h (fun h => ?_) (fun h => ?_)
      · refine lv_iconst (v := 0) hx hb dX5_isSteadyAt_39 rfl ?_
        exact z_zretC hx hb hlocks hP hS hQ hr dX5_isSteadyAt_40 (Or.inl rfl) h
      · refine lv_iconst (v := 1) hx hb dX5_isSteadyAt_35 rfl ?_
        refine lv_goto (tgt := 40) hx hb dX5_isSteadyAt_36 (by decide) ?_
        exact z_zretC hx hb hlocks hP hS hQ hr dX5_isSteadyAt_40 (Or.inr rfl) h

def fX7_stands (a1 : Int32) (S : zT) : Option (Int32 × zT) :=
  zbi (fX6_hasTick 1 a1 S) fun r_2 S_1 =>
  (if r_2 = 0 then some ((-1), S_1) else zbv (fX7_tryOut S_1) fun S_3 =>
  zbi (fX5_isSteadyAt a1 S_3) fun r_5 S_4 =>
  (if r_5 = 0 then some (0, S_4) else some (1, S_4)))
abbrev rmX7_stands : Room := { frames := 6, cells := 0, slots := 0, locals := 132 }
theorem yd_X7_stands : yX7_stands.cls = RX7 ∧ yX7_stands.cls ≠ "java/lang/invoke/MethodHandle" ∧ yX7_stands.cls ≠ "java/lang/invoke/VarHandle" ∧ (parseMethodDescriptor yX7_stands.desc).map (fun d => d.parameters.length) = some 1 := by decide +kernel
set_option maxRecDepth 100000 in
set_option maxHeartbeats 4000000 in
theorem ctX7_stands {l : Launch} {dC : Nat → ClassId} {dI : Nat → Nat → Nat} {cI : ClassId × ClassId} {cW : List zSh} {q : Nat → Nat} (hq : zI cW q) (hW : zIs cI cW) {a1 : Int32} {S : zT} {o : Int32 × zT} (h : fX7_stands a1 S = some o) : zCi l dC dI cI cW q yX7_stands (Cond.code yX7_stands cX7_stands 2 (some .int) :: zU) rmX7_stands [.ref (q 0), .int a1] S o := by
  refine zMet_i (lv := [(0, .ref (q 0)), (1, .int a1)]) (by decide) (Nat.le_of_ble_eq_true rfl) rfl ?_
  intro p e s m args below meth c Q hx hb hml hr hU hown hlocks hK hN hP hS ls hl hQ
  replace hown : s.vm.findClass RX7 = some m.cls := hown
  unfold fX7_stands at h
  refine lv_aload_n hx hb dX7_stands_0 rfl (lv_at hl 0 rfl) ?_
  refine z_get hx hb hU uU_X7 hown hK hP (p_0 hW) rfl rfl 0 (by decide) (hU _ uF_X7_12) rfl dX7_stands_1 ?_
  refine lv_iload_n hx hb dX7_stands_4 rfl (lv_at hl 1 rfl) ?_
  refine z_callV_i hx hb hml hown hU hK hN hP hS 1 (pW_1 hW).1 rfl rfl (zU_V uL_X7_115 uI_X6_hasTick uS_X6_hasTick uN_X6 uC_X6_hasTick) yd_X6_hasTick ⟨rfl, rfl⟩ ⟨Nat.le_of_ble_eq_true rfl, Nat.le_of_ble_eq_true rfl⟩ (As := [.int a1]) (fun o h9 => ctX6_hasTick hq (pW_1 hW) h9) rfl hl.1 rfl (Nat.le_of_ble_eq_true rfl) dX7_stands_5 ⟨Nat.zero_le _, Nat.zero_le _⟩ h (fun r_2 S_1 H locs hP hS h => ?_)
  refine z_if_ne (tgt := 13) hx hb dX7_stands_8 (by decide) h (fun h => ?_) (fun h => ?_)
  · refine lv_aload_n hx hb dX7_stands_13 rfl (lv_at hl 0 rfl) ?_
    refine z_callV_v hx hb hml hown hU hK hN hP hS 0 (p_0 hW) rfl rfl (zU_V uL_X7_151 uI_X7_tryOut uS_X7_tryOut uN_X7 uC_X7_tryOut) yd_X7_tryOut ⟨rfl, rfl⟩ ⟨Nat.le_of_ble_eq_true rfl, Nat.le_of_ble_eq_true rfl⟩ (As := []) (fun o h9 => ctX7_tryOut hq hW h9) rfl hl.1 rfl (Nat.le_of_ble_eq_true rfl) dX7_stands_14 ⟨Nat.zero_le _, Nat.zero_le _⟩ h (fun S_3 H locs hP hS h => ?_)
    refine lv_aload_n hx hb dX7_stands_17 rfl (lv_at hl 0 rfl) ?_
    refine z_get hx hb hU uU_X7 hown hK hP (p_0 hW) rfl rfl 3 (by decide) (hU _ uF_X7_34) rfl dX7_stands_18 ?_
    refine lv_iload_n hx hb dX7_stands_21 rfl (lv_at hl 1 rfl) ?_
    refine z_callV_i hx hb hml hown hU hK hN hP hS 1 (p_67 hW) rfl rfl (zU_V uL_X7_157 uI_X5_isSteadyAt uS_X5_isSteadyAt uN_X5 uC_X5_isSteadyAt) yd_X5_isSteadyAt ⟨rfl, rfl⟩ ⟨Nat.le_of_ble_eq_true rfl, Nat.le_of_ble_eq_true rfl⟩ (As := [.int a1]) (fun o h9 => ctX5_isSteadyAt hq hW h9) rfl hl.1 rfl (Nat.le_of_ble_eq_true rfl) dX7_stands_22 ⟨Nat.zero_le _, Nat.zero_le _⟩ h (fun r_5 S_4 H locs hP hS h => ?_)
    refine z_if_eq (tgt := 32) hx hb dX7_stands_25 (by decide) h (fun h => ?_) (fun h => ?_)
    · refine lv_iconst (v := 0) hx hb dX7_stands_32 rfl ?_
      exact z_iret hx hb hlocks hP hS hQ hr dX7_stands_33 h
    · refine lv_iconst (v := 1) hx hb dX7_stands_28 rfl ?_
      refine lv_goto (tgt := 33) hx hb dX7_stands_29 (by decide) ?_
      exact z_iret hx hb hlocks hP hS hQ hr dX7_stands_33 h
  · refine lv_iconst (v := (-1)) hx hb dX7_stands_11 rfl ?_
    exact z_iret hx hb hlocks hP hS hQ hr dX7_stands_12 h

def fX5_firstFall_2 (rec : Int32 → zT → Option (Int32 × zT)) (x1 : Int32) (S : zT) : Option (Int32 × zT) :=
  (if (S.1 68 6) ≤ x1 then some ((-1), S) else zbi (fX5_isSteadyAt x1 S) fun r_2 S_1 =>
  (if r_2 = 0 then some (x1, S_1) else rec (x1 + 1) S_1))
def fX5_firstFall (S : zT) : Option (Int32 × zT) :=
  (zfix (fun _ _ => none) fX5_firstFall_2 zF) 0 S
abbrev rmX5_firstFall : Room := { frames := 4, cells := 0, slots := 0, locals := 90 }
theorem yd_X5_firstFall : yX5_firstFall.cls = RX5 ∧ yX5_firstFall.cls ≠ "java/lang/invoke/MethodHandle" ∧ yX5_firstFall.cls ≠ "java/lang/invoke/VarHandle" ∧ (parseMethodDescriptor yX5_firstFall.desc).map (fun d => d.parameters.length) = some 0 := by decide +kernel
set_option maxRecDepth 100000 in
set_option maxHeartbeats 4000000 in
theorem ctX5_firstFall {l : Launch} {dC : Nat → ClassId} {dI : Nat → Nat → Nat} {cI : ClassId × ClassId} {cW : List zSh} {q : Nat → Nat} (hq : zI cW q) (hW : zIs cI cW) {S : zT} {o : Int32 × zT} (h : fX5_firstFall S = some o) : zCi l dC dI cI cW q yX5_firstFall (Cond.code yX5_firstFall cX5_firstFall 2 (some .int) :: zU) rmX5_firstFall [.ref (q 67)] S o := by
  refine zMet_i (lv := [(0, .ref (q 67))]) (by decide) (Nat.le_of_ble_eq_true rfl) rfl ?_
  intro p e s m args below meth c Q hx hb hml hr hU hown hlocks hK hN hP hS ls hl hQ
  replace hown : s.vm.findClass RX5 = some m.cls := hown
  unfold fX5_firstFall at h
  have L2 : ∀ (n2 : Nat) (x1 : Int32) (S : zT) (H : Heap) (locs : List Loc) (ls : Array Slot), va_P (dC, dI) vwCl (zWd cI cW q S) H → va_S (zA cW q) s.heap H locs → lv_has ls 2 [(0, .ref (q 67)), (1, .int x1)] → (zfix (fun _ _ => none) fX5_firstFall_2 n2) x1 S = some o → W p l e rmX5_firstFall s m args below meth c H locs 0 0 Q (F0 m 2 ls []) := by
    intro n2
    induction n2 with
    | zero => intro x1 S H locs ls hP hS hl h; exact zno (show (none : Option (Int32 × zT)) = some o from h)
    | succ n2 ih2 =>
      intro x1 S H locs ls hP hS hl h
      replace h : fX5_firstFall_2 (zfix (fun _ _ => none) fX5_firstFall_2 n2) x1 S = some o := h
      unfold fX5_firstFall_2 at h
      refine lv_iload_n hx hb dX5_firstFall_2 rfl (lv_at hl 1 rfl) ?_
      refine lv_aload_n hx hb dX5_firstFall_3 rfl (lv_at hl 0 rfl) ?_
      refine z_get hx hb hU uU_X5 hown hK hP (p_67 hW) rfl rfl 0 (by decide) (hU _ uF_X5_12) rfl dX5_firstFall_4 ?_
      refine z_get hx hb hU uU_X6 hown hK hP (pW_68 hW).1 rfl rfl 6 (by decide) (hU _ uF_X5_74) rfl dX5_firstFall_7 ?_
      refine z_icmp_ge (tgt := 29) hx hb dX5_firstFall_10 (by decide) h (fun h => ?_) (fun h => ?_)
      · refine lv_iconst (v := (-1)) hx hb dX5_firstFall_29 rfl ?_
        exact z_iret hx hb hlocks hP hS hQ hr dX5_firstFall_30 h
      · refine lv_aload_n hx hb dX5_firstFall_13 rfl (lv_at hl 0 rfl) ?_
        refine lv_iload_n hx hb dX5_firstFall_14 rfl (lv_at hl 1 rfl) ?_
        refine z_callV_i hx hb hml hown hU hK hN hP hS 1 (p_67 hW) rfl rfl (zU_V uL_X5_111 uI_X5_isSteadyAt uS_X5_isSteadyAt uN_X5 uC_X5_isSteadyAt) yd_X5_isSteadyAt ⟨rfl, rfl⟩ ⟨Nat.le_of_ble_eq_true rfl, Nat.le_of_ble_eq_true rfl⟩ (As := [.int x1]) (fun o h9 => ctX5_isSteadyAt hq hW h9) rfl hl.1 rfl (Nat.le_of_ble_eq_true rfl) dX5_firstFall_15 ⟨Nat.zero_le _, Nat.zero_le _⟩ h (fun r_2 S_1 H locs hP hS h => ?_)
        refine z_if_ne (tgt := 23) hx hb dX5_firstFall_18 (by decide) h (fun h => ?_) (fun h => ?_)
        · refine lv_iinc (v := (x1 + 1)) (lv' := [(1, .int (x1 + 1)), (0, .ref (q 67))]) hx hb dX5_firstFall_23 hl (k := 1) rfl rfl (by decide) rfl (fun ls hl => ?_)
          refine lv_goto (tgt := 2) hx hb dX5_firstFall_26 (by decide) ?_
          exact ih2 (x1 + 1) _ _ _ ls hP hS (lv_sub hl [1, 0] rfl) h
        · refine lv_iload_n hx hb dX5_firstFall_21 rfl (lv_at hl 1 rfl) ?_
          exact z_iret hx hb hlocks hP hS hQ hr dX5_firstFall_22 h
  refine lv_iconst (v := 0) hx hb dX5_firstFall_0 rfl ?_
  refine lv_istore_n (lv' := [(1, .int 0), (0, .ref (q 67))]) hx hb dX5_firstFall_1 rfl hl (by decide) rfl (fun ls hl => ?_)
  exact L2 zF 0 _ _ _ ls hP hS (lv_sub hl [1, 0] rfl) h

def fX5_firstBeyondReach_2 (rec : Int32 → zT → Option (Int32 × zT)) (x1 : Int32) (S : zT) : Option (Int32 × zT) :=
  (if (S.1 68 0) ≤ x1 then some ((-1), S) else zbi (fX2_at 77 8 x1 S) fun r_2 S_1 =>
  (if ((S.1 68 4) * r_2) ≤ (2 * (S_1.1 68 5)) then rec (x1 + 1) S_1 else some (x1, S_1)))
def fX5_firstBeyondReach (S : zT) : Option (Int32 × zT) :=
  (zfix (fun _ _ => none) fX5_firstBeyondReach_2 zF) 0 S
abbrev rmX5_firstBeyondReach : Room := { frames := 1, cells := 0, slots := 0, locals := 21 }
theorem yd_X5_firstBeyondReach : yX5_firstBeyondReach.cls = RX5 ∧ yX5_firstBeyondReach.cls ≠ "java/lang/invoke/MethodHandle" ∧ yX5_firstBeyondReach.cls ≠ "java/lang/invoke/VarHandle" ∧ (parseMethodDescriptor yX5_firstBeyondReach.desc).map (fun d => d.parameters.length) = some 0 := by decide +kernel
set_option maxRecDepth 100000 in
set_option maxHeartbeats 4000000 in
theorem ctX5_firstBeyondReach {l : Launch} {dC : Nat → ClassId} {dI : Nat → Nat → Nat} {cI : ClassId × ClassId} {cW : List zSh} {q : Nat → Nat} (hq : zI cW q) (hW : zIs cI cW) {S : zT} {o : Int32 × zT} (h : fX5_firstBeyondReach S = some o) : zCi l dC dI cI cW q yX5_firstBeyondReach (Cond.code yX5_firstBeyondReach cX5_firstBeyondReach 2 (some .int) :: zU) rmX5_firstBeyondReach [.ref (q 67)] S o := by
  refine zMet_i (lv := [(0, .ref (q 67))]) (by decide) (Nat.le_of_ble_eq_true rfl) rfl ?_
  intro p e s m args below meth c Q hx hb hml hr hU hown hlocks hK hN hP hS ls hl hQ
  replace hown : s.vm.findClass RX5 = some m.cls := hown
  unfold fX5_firstBeyondReach at h
  have L2 : ∀ (n2 : Nat) (x1 : Int32) (S : zT) (H : Heap) (locs : List Loc) (ls : Array Slot), va_P (dC, dI) vwCl (zWd cI cW q S) H → va_S (zA cW q) s.heap H locs → lv_has ls 2 [(0, .ref (q 67)), (1, .int x1)] → (zfix (fun _ _ => none) fX5_firstBeyondReach_2 n2) x1 S = some o → W p l e rmX5_firstBeyondReach s m args below meth c H locs 0 0 Q (F0 m 2 ls []) := by
    intro n2
    induction n2 with
    | zero => intro x1 S H locs ls hP hS hl h; exact zno (show (none : Option (Int32 × zT)) = some o from h)
    | succ n2 ih2 =>
      intro x1 S H locs ls hP hS hl h
      replace h : fX5_firstBeyondReach_2 (zfix (fun _ _ => none) fX5_firstBeyondReach_2 n2) x1 S = some o := h
      unfold fX5_firstBeyondReach_2 at h
      refine lv_iload_n hx hb dX5_firstBeyondReach_2 rfl (lv_at hl 1 rfl) ?_
      refine lv_aload_n hx hb dX5_firstBeyondReach_3 rfl (lv_at hl 0 rfl) ?_
      refine z_get hx hb hU uU_X5 hown hK hP (p_67 hW) rfl rfl 0 (by decide) (hU _ uF_X5_12) rfl dX5_firstBeyondReach_4 ?_
      refine z_get hx hb hU uU_X6 hown hK hP (pW_68 hW).1 rfl rfl 0 (by decide) (hU _ uF_X5_51) rfl dX5_firstBeyondReach_7 ?_
      refine z_icmp_ge (tgt := 49) hx hb dX5_firstBeyondReach_10 (by decide) h (fun h => ?_) (fun h => ?_)
      · refine lv_iconst (v := (-1)) hx hb dX5_firstBeyondReach_49 rfl ?_
        exact z_iret hx hb hlocks hP hS hQ hr dX5_firstBeyondReach_50 h
      · refine lv_aload_n hx hb dX5_firstBeyondReach_13 rfl (lv_at hl 0 rfl) ?_
        refine z_get hx hb hU uU_X5 hown hK hP (p_67 hW) rfl rfl 0 (by decide) (hU _ uF_X5_12) rfl dX5_firstBeyondReach_14 ?_
        refine z_get hx hb hU uU_X6 hown hK hP (pW_68 hW).1 rfl rfl 4 (by decide) (hU _ uF_X5_99) rfl dX5_firstBeyondReach_17 ?_
        refine lv_aload_n hx hb dX5_firstBeyondReach_20 rfl (lv_at hl 0 rfl) ?_
        refine z_get hx hb hU uU_X5 hown hK hP (p_67 hW) rfl rfl 2 (by decide) (hU _ uF_X5_27) rfl dX5_firstBeyondReach_21 ?_
        refine lv_iload_n hx hb dX5_firstBeyondReach_24 rfl (lv_at hl 1 rfl) ?_
        refine z_callV_i hx hb hml hown hU hK hN hP hS 1 (pR_77 hW).1 rfl rfl (zU_V uL_X5_70 uI_X2_at uS_X2_at uN_X2 uC_X2_at) yd_X2_at ⟨rfl, rfl⟩ ⟨Nat.le_of_ble_eq_true rfl, Nat.le_of_ble_eq_true rfl⟩ (As := [.int x1]) (fun o h9 => ctX2_at hq (pR_77 hW) h9) rfl hl.1 rfl (Nat.le_of_ble_eq_true rfl) dX5_firstBeyondReach_25 ⟨Nat.zero_le _, Nat.zero_le _⟩ h (fun r_2 S_1 H locs hP hS h => ?_)
        refine lv_imul hx hb dX5_firstBeyondReach_28 ?_
        refine lv_iconst (v := 2) hx hb dX5_firstBeyondReach_29 rfl ?_
        refine lv_aload_n hx hb dX5_firstBeyondReach_30 rfl (lv_at hl 0 rfl) ?_
        refine z_get hx hb hU uU_X5 hown hK hP (p_67 hW) rfl rfl 0 (by decide) (hU _ uF_X5_12) rfl dX5_firstBeyondReach_31 ?_
        refine z_get hx hb hU uU_X6 hown hK hP (pW_68 hW).1 rfl rfl 5 (by decide) (hU _ uF_X5_108) rfl dX5_firstBeyondReach_34 ?_
        refine lv_imul hx hb dX5_firstBeyondReach_37 ?_
        refine z_icmp_le (tgt := 43) hx hb dX5_firstBeyondReach_38 (by decide) h (fun h => ?_) (fun h => ?_)
        · refine lv_iinc (v := (x1 + 1)) (lv' := [(1, .int (x1 + 1)), (0, .ref (q 67))]) hx hb dX5_firstBeyondReach_43 hl (k := 1) rfl rfl (by decide) rfl (fun ls hl => ?_)
          refine lv_goto (tgt := 2) hx hb dX5_firstBeyondReach_46 (by decide) ?_
          exact ih2 (x1 + 1) _ _ _ ls hP hS (lv_sub hl [1, 0] rfl) h
        · refine lv_iload_n hx hb dX5_firstBeyondReach_41 rfl (lv_at hl 1 rfl) ?_
          exact z_iret hx hb hlocks hP hS hQ hr dX5_firstBeyondReach_42 h
  refine lv_iconst (v := 0) hx hb dX5_firstBeyondReach_0 rfl ?_
  refine lv_istore_n (lv' := [(1, .int 0), (0, .ref (q 67))]) hx hb dX5_firstBeyondReach_1 rfl hl (by decide) rfl (fun ls hl => ?_)
  exact L2 zF 0 _ _ _ ls hP hS (lv_sub hl [1, 0] rfl) h

def fX5_isSteady (S : zT) : Option (Int32 × zT) :=
  zbi (fX5_firstFall S) fun r_2 S_1 =>
  (if r_2 = (-1) then zbi (fX5_firstBeyondReach S_1) fun r_4 S_3 =>
  (if r_4 = (-1) then some (1, S_3) else some (0, S_3)) else some (0, S_1))
abbrev rmX5_isSteady : Room := { frames := 5, cells := 0, slots := 0, locals := 111 }
theorem yd_X5_isSteady : yX5_isSteady.cls = RX5 ∧ yX5_isSteady.cls ≠ "java/lang/invoke/MethodHandle" ∧ yX5_isSteady.cls ≠ "java/lang/invoke/VarHandle" ∧ (parseMethodDescriptor yX5_isSteady.desc).map (fun d => d.parameters.length) = some 0 := by decide +kernel
set_option maxRecDepth 100000 in
set_option maxHeartbeats 4000000 in
theorem ctX5_isSteady {l : Launch} {dC : Nat → ClassId} {dI : Nat → Nat → Nat} {cI : ClassId × ClassId} {cW : List zSh} {q : Nat → Nat} (hq : zI cW q) (hW : zIs cI cW) {S : zT} {o : Int32 × zT} (h : fX5_isSteady S = some o) : zCi l dC dI cI cW q yX5_isSteady (Cond.code yX5_isSteady cX5_isSteady 1 (some .boolean) :: zU) rmX5_isSteady [.ref (q 67)] S o := by
  refine zMet_i (lv := [(0, .ref (q 67))]) (by decide) (Nat.le_of_ble_eq_true rfl) rfl ?_
  intro p e s m args below meth c Q hx hb hml hr hU hown hlocks hK hN hP hS ls hl hQ
  replace hown : s.vm.findClass RX5 = some m.cls := hown
  unfold fX5_isSteady at h
  refine lv_aload_n hx hb dX5_isSteady_0 rfl (lv_at hl 0 rfl) ?_
  refine z_callV_i hx hb hml hown hU hK hN hP hS 0 (p_67 hW) rfl rfl (zU_V uL_X5_102 uI_X5_firstFall uS_X5_firstFall uN_X5 uC_X5_firstFall) yd_X5_firstFall ⟨rfl, rfl⟩ ⟨Nat.le_of_ble_eq_true rfl, Nat.le_of_ble_eq_true rfl⟩ (As := []) (fun o h9 => ctX5_firstFall hq hW h9) rfl hl.1 rfl (Nat.le_of_ble_eq_true rfl) dX5_isSteady_1 ⟨Nat.zero_le _, Nat.zero_le _⟩ h (fun r_2 S_1 H locs hP hS h => ?_)
  refine lv_iconst (v := (-1)) hx hb dX5_isSteady_4 rfl ?_
  refine z_icmp_ne (tgt := 20) hx hb dX5_isSteady_5 (by decide) h (fun h => ?_) (fun h => ?_)
  · refine lv_iconst (v := 0) hx hb dX5_isSteady_20 rfl ?_
    exact z_zretC hx hb hlocks hP hS hQ hr dX5_isSteady_21 (Or.inl rfl) h
  · refine lv_aload_n hx hb dX5_isSteady_8 rfl (lv_at hl 0 rfl) ?_
    refine z_callV_i hx hb hml hown hU hK hN hP hS 0 (p_67 hW) rfl rfl (zU_V uL_X5_105 uI_X5_firstBeyondReach uS_X5_firstBeyondReach uN_X5 uC_X5_firstBeyondReach) yd_X5_firstBeyondReach ⟨rfl, rfl⟩ ⟨Nat.le_of_ble_eq_true rfl, Nat.le_of_ble_eq_true rfl⟩ (As := []) (fun o h9 => ctX5_firstBeyondReach hq hW h9) rfl hl.1 rfl (Nat.le_of_ble_eq_true rfl) dX5_isSteady_9 ⟨Nat.zero_le _, Nat.zero_le _⟩ h (fun r_4 S_3 H locs hP hS h => ?_)
    refine lv_iconst (v := (-1)) hx hb dX5_isSteady_12 rfl ?_
    refine z_icmp_ne (tgt := 20) hx hb dX5_isSteady_13 (by decide) h (fun h => ?_) (fun h => ?_)
    · refine lv_iconst (v := 0) hx hb dX5_isSteady_20 rfl ?_
      exact z_zretC hx hb hlocks hP hS hQ hr dX5_isSteady_21 (Or.inl rfl) h
    · refine lv_iconst (v := 1) hx hb dX5_isSteady_16 rfl ?_
      refine lv_goto (tgt := 21) hx hb dX5_isSteady_17 (by decide) ?_
      exact z_zretC hx hb hlocks hP hS hQ hr dX5_isSteady_21 (Or.inr rfl) h

def fX7_walks (S : zT) : Option (Int32 × zT) :=
  zbv (fX7_tryOut S) fun S_1 =>
  zbi (fX5_isSteady S_1) fun r_3 S_2 =>
  if r_3 = 0 ∨ r_3 = 1 then some (r_3, S_2) else none
abbrev rmX7_walks : Room := { frames := 6, cells := 0, slots := 0, locals := 132 }
theorem yd_X7_walks : yX7_walks.cls = RX7 ∧ yX7_walks.cls ≠ "java/lang/invoke/MethodHandle" ∧ yX7_walks.cls ≠ "java/lang/invoke/VarHandle" ∧ (parseMethodDescriptor yX7_walks.desc).map (fun d => d.parameters.length) = some 0 := by decide +kernel
set_option maxRecDepth 100000 in
set_option maxHeartbeats 4000000 in
theorem ctX7_walks {l : Launch} {dC : Nat → ClassId} {dI : Nat → Nat → Nat} {cI : ClassId × ClassId} {cW : List zSh} {q : Nat → Nat} (hq : zI cW q) (hW : zIs cI cW) {S : zT} {o : Int32 × zT} (h : fX7_walks S = some o) : zCi l dC dI cI cW q yX7_walks (Cond.code yX7_walks cX7_walks 1 (some .boolean) :: zU) rmX7_walks [.ref (q 0)] S o := by
  refine zMet_i (lv := [(0, .ref (q 0))]) (by decide) (Nat.le_of_ble_eq_true rfl) rfl ?_
  intro p e s m args below meth c Q hx hb hml hr hU hown hlocks hK hN hP hS ls hl hQ
  replace hown : s.vm.findClass RX7 = some m.cls := hown
  unfold fX7_walks at h
  refine lv_aload_n hx hb dX7_walks_0 rfl (lv_at hl 0 rfl) ?_
  refine z_callV_v hx hb hml hown hU hK hN hP hS 0 (p_0 hW) rfl rfl (zU_V uL_X7_151 uI_X7_tryOut uS_X7_tryOut uN_X7 uC_X7_tryOut) yd_X7_tryOut ⟨rfl, rfl⟩ ⟨Nat.le_of_ble_eq_true rfl, Nat.le_of_ble_eq_true rfl⟩ (As := []) (fun o h9 => ctX7_tryOut hq hW h9) rfl hl.1 rfl (Nat.le_of_ble_eq_true rfl) dX7_walks_1 ⟨Nat.zero_le _, Nat.zero_le _⟩ h (fun S_1 H locs hP hS h => ?_)
  refine lv_aload_n hx hb dX7_walks_4 rfl (lv_at hl 0 rfl) ?_
  refine z_get hx hb hU uU_X7 hown hK hP (p_0 hW) rfl rfl 3 (by decide) (hU _ uF_X7_34) rfl dX7_walks_5 ?_
  refine z_callV_i hx hb hml hown hU hK hN hP hS 0 (p_67 hW) rfl rfl (zU_V uL_X7_160 uI_X5_isSteady uS_X5_isSteady uN_X5 uC_X5_isSteady) yd_X5_isSteady ⟨rfl, rfl⟩ ⟨Nat.le_of_ble_eq_true rfl, Nat.le_of_ble_eq_true rfl⟩ (As := []) (fun o h9 => ctX5_isSteady hq hW h9) rfl hl.1 rfl (Nat.le_of_ble_eq_true rfl) dX7_walks_8 ⟨Nat.zero_le _, Nat.zero_le _⟩ h (fun r_3 S_2 H locs hP hS h => ?_)
  exact z_zret hx hb hlocks hP hS hQ hr dX7_walks_11 h

def fX7_why (S : zT) : Option (Int32 × zT) :=
  zbv (fX7_tryOut S) fun S_1 =>
  zbi (fX5_firstFall S_1) fun r_3 S_2 =>
  (if r_3 = (-1) then zbi (fX5_firstBeyondReach S_2) fun r_5 S_4 =>
  (if r_5 = (-1) then some ((-1), S_4) else some ((100 + r_5), S_4)) else some (r_3, S_2))
abbrev rmX7_why : Room := { frames := 6, cells := 0, slots := 0, locals := 132 }
theorem yd_X7_why : yX7_why.cls = RX7 ∧ yX7_why.cls ≠ "java/lang/invoke/MethodHandle" ∧ yX7_why.cls ≠ "java/lang/invoke/VarHandle" ∧ (parseMethodDescriptor yX7_why.desc).map (fun d => d.parameters.length) = some 0 := by decide +kernel
set_option maxRecDepth 100000 in
set_option maxHeartbeats 4000000 in
theorem ctX7_why {l : Launch} {dC : Nat → ClassId} {dI : Nat → Nat → Nat} {cI : ClassId × ClassId} {cW : List zSh} {q : Nat → Nat} (hq : zI cW q) (hW : zIs cI cW) {S : zT} {o : Int32 × zT} (h : fX7_why S = some o) : zCi l dC dI cI cW q yX7_why (Cond.code yX7_why cX7_why 3 (some .int) :: zU) rmX7_why [.ref (q 0)] S o := by
  refine zMet_i (lv := [(0, .ref (q 0))]) (by decide) (Nat.le_of_ble_eq_true rfl) rfl ?_
  intro p e s m args below meth c Q hx hb hml hr hU hown hlocks hK hN hP hS ls hl hQ
  replace hown : s.vm.findClass RX7 = some m.cls := hown
  unfold fX7_why at h
  refine lv_aload_n hx hb dX7_why_0 rfl (lv_at hl 0 rfl) ?_
  refine z_callV_v hx hb hml hown hU hK hN hP hS 0 (p_0 hW) rfl rfl (zU_V uL_X7_151 uI_X7_tryOut uS_X7_tryOut uN_X7 uC_X7_tryOut) yd_X7_tryOut ⟨rfl, rfl⟩ ⟨Nat.le_of_ble_eq_true rfl, Nat.le_of_ble_eq_true rfl⟩ (As := []) (fun o h9 => ctX7_tryOut hq hW h9) rfl hl.1 rfl (Nat.le_of_ble_eq_true rfl) dX7_why_1 ⟨Nat.zero_le _, Nat.zero_le _⟩ h (fun S_1 H locs hP hS h => ?_)
  refine lv_aload_n hx hb dX7_why_4 rfl (lv_at hl 0 rfl) ?_
  refine z_get hx hb hU uU_X7 hown hK hP (p_0 hW) rfl rfl 3 (by decide) (hU _ uF_X7_34) rfl dX7_why_5 ?_
  refine z_callV_i hx hb hml hown hU hK hN hP hS 0 (p_67 hW) rfl rfl (zU_V uL_X7_163 uI_X5_firstFall uS_X5_firstFall uN_X5 uC_X5_firstFall) yd_X5_firstFall ⟨rfl, rfl⟩ ⟨Nat.le_of_ble_eq_true rfl, Nat.le_of_ble_eq_true rfl⟩ (As := []) (fun o h9 => ctX5_firstFall hq hW h9) rfl hl.1 rfl (Nat.le_of_ble_eq_true rfl) dX7_why_8 ⟨Nat.zero_le _, Nat.zero_le _⟩ h (fun r_3 S_2 H locs hP hS h => ?_)
  refine lv_istore_n (lv' := [(1, .int r_3), (0, .ref (q 0))]) hx hb dX7_why_11 rfl hl (by decide) rfl (fun ls hl => ?_)
  refine lv_iload_n hx hb dX7_why_12 rfl (lv_at hl 0 rfl) ?_
  refine lv_iconst (v := (-1)) hx hb dX7_why_13 rfl ?_
  refine z_icmp_eq (tgt := 19) hx hb dX7_why_14 (by decide) h (fun h => ?_) (fun h => ?_)
  · refine lv_aload_n hx hb dX7_why_19 rfl (lv_at hl 1 rfl) ?_
    refine z_get hx hb hU uU_X7 hown hK hP (p_0 hW) rfl rfl 3 (by decide) (hU _ uF_X7_34) rfl dX7_why_20 ?_
    refine z_callV_i hx hb hml hown hU hK hN hP hS 0 (p_67 hW) rfl rfl (zU_V uL_X7_166 uI_X5_firstBeyondReach uS_X5_firstBeyondReach uN_X5 uC_X5_firstBeyondReach) yd_X5_firstBeyondReach ⟨rfl, rfl⟩ ⟨Nat.le_of_ble_eq_true rfl, Nat.le_of_ble_eq_true rfl⟩ (As := []) (fun o h9 => ctX5_firstBeyondReach hq hW h9) rfl hl.1 rfl (Nat.le_of_ble_eq_true rfl) dX7_why_23 ⟨Nat.zero_le _, Nat.zero_le _⟩ h (fun r_5 S_4 H locs hP hS h => ?_)
    refine lv_istore_n (lv' := [(2, .int r_5), (1, .int r_3), (0, .ref (q 0))]) hx hb dX7_why_26 rfl hl (by decide) rfl (fun ls hl => ?_)
    refine lv_iload_n hx hb dX7_why_27 rfl (lv_at hl 0 rfl) ?_
    refine lv_iconst (v := (-1)) hx hb dX7_why_28 rfl ?_
    refine z_icmp_ne (tgt := 36) hx hb dX7_why_29 (by decide) h (fun h => ?_) (fun h => ?_)
    · refine lv_bipush (v := 100) hx hb dX7_why_36 rfl ?_
      refine lv_iload_n hx hb dX7_why_38 rfl (lv_at hl 0 rfl) ?_
      refine lv_iadd hx hb dX7_why_39 ?_
      exact z_iret hx hb hlocks hP hS hQ hr dX7_why_40 h
    · refine lv_iconst (v := (-1)) hx hb dX7_why_32 rfl ?_
      refine lv_goto (tgt := 40) hx hb dX7_why_33 (by decide) ?_
      exact z_iret hx hb hlocks hP hS hQ hr dX7_why_40 h
  · refine lv_iload_n hx hb dX7_why_17 rfl (lv_at hl 0 rfl) ?_
    exact z_iret hx hb hlocks hP hS hQ hr dX7_why_18 h

def fX4_measure_12 (k2 : Int32 → zT → Option zT) (rec : Int32 → Int32 → zT → Option zT) (x1 : Int32) (x2 : Int32) (S : zT) : Option zT :=
  (if (S.1 81 5) ≤ x2 then k2 (x1 + 1) S else zbi (fX4_heightAbove x1 x2 S) fun r_2 S_1 =>
  zbi (fX2_at 86 8 x2 S_1) fun r_4 S_3 =>
  zbi (fX2_at 82 8 x1 S_3) fun r_6 S_5 =>
  zbv (fX1_lowerTo 90 ((r_2).toInt64) (((r_4 - r_6)).toInt64) S_5) fun S_7 =>
  zbv (fX1_raiseTo 91 ((r_2).toInt64) (((r_4 - r_6)).toInt64) S_7) fun S_8 =>
  rec x1 (x2 + 1) S_8)
def fX4_measure_2 (rec : Int32 → zT → Option zT) (x1 : Int32) (S : zT) : Option zT :=
  (if (S.1 81 4) ≤ x1 then zbv (fX1_drop 92 S) fun S_9 =>
  zbi (fX1_isNone 90 S_9) fun r_11 S_10 =>
  (if r_11 = 0 then zbv (fX1_lowerTo 92 (-(S_10.2 90 0)) (2 * (S_10.2 90 1)) S_10) fun S_12 =>
  zbv (fX1_lowerTo 92 (S_12.2 91 0) (2 * (S_12.2 91 1)) S_12) fun S_13 =>
  some S_13 else some S_10) else (zfix (fun _ _ _ => none) (fX4_measure_12 rec) zF) x1 0 S)
def fX4_measure (S : zT) : Option zT :=
  (zfix (fun _ _ => none) fX4_measure_2 zF) 0 S
abbrev rmX4_measure : Room := { frames := 2, cells := 0, slots := 0, locals := 43 }
theorem yd_X4_measure : yX4_measure.cls = RX4 ∧ yX4_measure.cls ≠ "java/lang/invoke/MethodHandle" ∧ yX4_measure.cls ≠ "java/lang/invoke/VarHandle" ∧ (parseMethodDescriptor yX4_measure.desc).map (fun d => d.parameters.length) = some 0 := by decide +kernel
set_option maxRecDepth 100000 in
set_option maxHeartbeats 4000000 in
theorem ctX4_measure {l : Launch} {dC : Nat → ClassId} {dI : Nat → Nat → Nat} {cI : ClassId × ClassId} {cW : List zSh} {q : Nat → Nat} (hq : zI cW q) (hW : zIs cI cW) {S : zT} {o : zT} (h : fX4_measure S = some o) : zCs l dC dI cI cW q yX4_measure (Cond.code yX4_measure cX4_measure 5 (some (.object "LegBench$Ratio")) :: zU) rmX4_measure [.ref (q 81)] S 92 o := by
  refine zMet_s (lv := [(0, .ref (q 81))]) (by decide) (Nat.le_of_ble_eq_true rfl) rfl ?_
  intro p e s m args below meth c Q hx hb hml hr hU hown hlocks hK hN hP hS ls hl hQ
  replace hown : s.vm.findClass RX4 = some m.cls := hown
  unfold fX4_measure at h
  have L2 : ∀ (n2 : Nat) (x1 : Int32) (S : zT) (H : Heap) (locs : List Loc) (ls : Array Slot), va_P (dC, dI) vwCl (zWd cI cW q S) H → va_S (zA cW q) s.heap H locs → lv_has ls 5 [(0, .ref (q 81)), (1, .int x1)] → (zfix (fun _ _ => none) fX4_measure_2 n2) x1 S = some o → W p l e rmX4_measure s m args below meth c H locs 0 0 Q (F0 m 2 ls []) := by
    intro n2
    induction n2 with
    | zero => intro x1 S H locs ls hP hS hl h; exact zno (show (none : Option zT) = some o from h)
    | succ n2 ih2 =>
      intro x1 S H locs ls hP hS hl h
      replace h : fX4_measure_2 (zfix (fun _ _ => none) fX4_measure_2 n2) x1 S = some o := h
      unfold fX4_measure_2 at h
      have L12 : ∀ (n12 : Nat) (x1 : Int32) (x2 : Int32) (S : zT) (H : Heap) (locs : List Loc) (ls : Array Slot), va_P (dC, dI) vwCl (zWd cI cW q S) H → va_S (zA cW q) s.heap H locs → lv_has ls 5 [(0, .ref (q 81)), (1, .int x1), (2, .int x2)] → (zfix (fun _ _ _ => none) (fX4_measure_12 (zfix (fun _ _ => none) fX4_measure_2 n2)) n12) x1 x2 S = some o → W p l e rmX4_measure s m args below meth c H locs 0 0 Q (F0 m 12 ls []) := by
        intro n12
        induction n12 with
        | zero => intro x1 x2 S H locs ls hP hS hl h; exact zno (show (none : Option zT) = some o from h)
        | succ n12 ih12 =>
          intro x1 x2 S H locs ls hP hS hl h
          replace h : fX4_measure_12 (zfix (fun _ _ => none) fX4_measure_2 n2) (zfix (fun _ _ _ => none) (fX4_measure_12 (zfix (fun _ _ => none) fX4_measure_2 n2)) n12) x1 x2 S = some o := h
          unfold fX4_measure_12 at h
          refine lv_iload_n hx hb dX4_measure_12 rfl (lv_at hl 2 rfl) ?_
          refine lv_aload_n hx hb dX4_measure_13 rfl (lv_at hl 0 rfl) ?_
          refine z_get hx hb hU uU_X4 hown hK hP (p_81 hW) rfl rfl 5 (by decide) (hU _ uF_X4_46) rfl dX4_measure_14 ?_
          refine z_icmp_ge (tgt := 76) hx hb dX4_measure_17 (by decide) h (fun h => ?_) (fun h => ?_)
          · refine lv_iinc (v := (x1 + 1)) (lv' := [(1, .int (x1 + 1)), (0, .ref (q 81)), (2, .int x2)]) hx hb dX4_measure_76 hl (k := 1) rfl rfl (by decide) rfl (fun ls hl => ?_)
            refine lv_goto (tgt := 2) hx hb dX4_measure_79 (by decide) ?_
            exact ih2 (x1 + 1) _ _ _ ls hP hS (lv_sub hl [1, 0] rfl) h
          · refine lv_aload_n hx hb dX4_measure_20 rfl (lv_at hl 0 rfl) ?_
            refine lv_iload_n hx hb dX4_measure_21 rfl (lv_at hl 1 rfl) ?_
            refine lv_iload_n hx hb dX4_measure_22 rfl (lv_at hl 2 rfl) ?_
            refine z_callV_i hx hb hml hown hU hK hN hP hS 2 (p_81 hW) rfl rfl (zU_V uL_X4_71 uI_X4_heightAbove uS_X4_heightAbove uN_X4 uC_X4_heightAbove) yd_X4_heightAbove ⟨rfl, rfl⟩ ⟨Nat.le_of_ble_eq_true rfl, Nat.le_of_ble_eq_true rfl⟩ (As := [.int x1, .int x2]) (fun o h9 => ctX4_heightAbove hq hW h9) rfl hl.1 rfl (Nat.le_of_ble_eq_true rfl) dX4_measure_23 ⟨Nat.zero_le _, Nat.zero_le _⟩ h (fun r_2 S_1 H locs hP hS h => ?_)
            refine lv_istore_n (lv' := [(3, .int r_2), (0, .ref (q 81)), (1, .int x1), (2, .int x2)]) hx hb dX4_measure_26 rfl hl (by decide) rfl (fun ls hl => ?_)
            refine lv_aload_n hx hb dX4_measure_27 rfl (lv_at hl 1 rfl) ?_
            refine z_get hx hb hU uU_X4 hown hK hP (p_81 hW) rfl rfl 2 (by decide) (hU _ uF_X4_23) rfl dX4_measure_28 ?_
            refine lv_iload_n hx hb dX4_measure_31 rfl (lv_at hl 3 rfl) ?_
            refine z_callV_i hx hb hml hown hU hK hN hP hS 1 (pR_86 hW).1 rfl rfl (zU_V uL_X4_75 uI_X2_at uS_X2_at uN_X2 uC_X2_at) yd_X2_at ⟨rfl, rfl⟩ ⟨Nat.le_of_ble_eq_true rfl, Nat.le_of_ble_eq_true rfl⟩ (As := [.int x2]) (fun o h9 => ctX2_at hq (pR_86 hW) h9) rfl hl.1 rfl (Nat.le_of_ble_eq_true rfl) dX4_measure_32 ⟨Nat.zero_le _, Nat.zero_le _⟩ h (fun r_4 S_3 H locs hP hS h => ?_)
            refine lv_aload_n hx hb dX4_measure_35 rfl (lv_at hl 1 rfl) ?_
            refine z_get hx hb hU uU_X4 hown hK hP (p_81 hW) rfl rfl 0 (by decide) (hU _ uF_X4_14) rfl dX4_measure_36 ?_
            refine lv_iload_n hx hb dX4_measure_39 rfl (lv_at hl 2 rfl) ?_
            refine z_callV_i hx hb hml hown hU hK hN hP hS 1 (pR_82 hW).1 rfl rfl (zU_V uL_X4_75 uI_X2_at uS_X2_at uN_X2 uC_X2_at) yd_X2_at ⟨rfl, rfl⟩ ⟨Nat.le_of_ble_eq_true rfl, Nat.le_of_ble_eq_true rfl⟩ (As := [.int x1]) (fun o h9 => ctX2_at hq (pR_82 hW) h9) rfl hl.1 rfl (Nat.le_of_ble_eq_true rfl) dX4_measure_40 ⟨Nat.zero_le _, Nat.zero_le _⟩ h (fun r_6 S_5 H locs hP hS h => ?_)
            refine lv_isub hx hb dX4_measure_43 ?_
            refine lv_istore (lv' := [(4, .int (r_4 - r_6)), (3, .int r_2), (0, .ref (q 81)), (1, .int x1), (2, .int x2)]) hx hb dX4_measure_44 hl (by decide) rfl (fun ls hl => ?_)
            refine lv_aload_n hx hb dX4_measure_46 rfl (lv_at hl 2 rfl) ?_
            refine z_get hx hb hU uU_X4 hown hK hP (p_81 hW) rfl rfl 6 (by decide) (hU _ uF_X4_32) rfl dX4_measure_47 ?_
            refine lv_iload_n hx hb dX4_measure_50 rfl (lv_at hl 1 rfl) ?_
            refine lv_i2l (v := (r_2).toInt64) hx hb dX4_measure_51 rfl ?_
            refine lv_iload hx hb dX4_measure_52 (lv_at hl 0 rfl) ?_
            refine lv_i2l (v := ((r_4 - r_6)).toInt64) hx hb dX4_measure_54 rfl ?_
            refine z_callV_v hx hb hml hown hU hK hN hP hS 2 (pT_90 hW) rfl rfl (zU_V uL_X4_56 uI_X1_lowerTo uS_X1_lowerTo uN_X1 uC_X1_lowerTo) yd_X1_lowerTo ⟨rfl, rfl⟩ ⟨Nat.le_of_ble_eq_true rfl, Nat.le_of_ble_eq_true rfl⟩ (As := [.long (r_2).toInt64, .long ((r_4 - r_6)).toInt64]) (fun o h9 => ctX1_lowerTo hq (pT_90 hW) h9) rfl hl.1 rfl (Nat.le_of_ble_eq_true rfl) dX4_measure_55 ⟨Nat.zero_le _, Nat.zero_le _⟩ h (fun S_7 H locs hP hS h => ?_)
            refine lv_aload_n hx hb dX4_measure_58 rfl (lv_at hl 2 rfl) ?_
            refine z_get hx hb hU uU_X4 hown hK hP (p_81 hW) rfl rfl 7 (by decide) (hU _ uF_X4_36) rfl dX4_measure_59 ?_
            refine lv_iload_n hx hb dX4_measure_62 rfl (lv_at hl 1 rfl) ?_
            refine lv_i2l (v := (r_2).toInt64) hx hb dX4_measure_63 rfl ?_
            refine lv_iload hx hb dX4_measure_64 (lv_at hl 0 rfl) ?_
            refine lv_i2l (v := ((r_4 - r_6)).toInt64) hx hb dX4_measure_66 rfl ?_
            refine z_callV_v hx hb hml hown hU hK hN hP hS 2 (pT_91 hW) rfl rfl (zU_V uL_X4_60 uI_X1_raiseTo uS_X1_raiseTo uN_X1 uC_X1_raiseTo) yd_X1_raiseTo ⟨rfl, rfl⟩ ⟨Nat.le_of_ble_eq_true rfl, Nat.le_of_ble_eq_true rfl⟩ (As := [.long (r_2).toInt64, .long ((r_4 - r_6)).toInt64]) (fun o h9 => ctX1_raiseTo hq (pT_91 hW) h9) rfl hl.1 rfl (Nat.le_of_ble_eq_true rfl) dX4_measure_67 ⟨Nat.zero_le _, Nat.zero_le _⟩ h (fun S_8 H locs hP hS h => ?_)
            refine lv_iinc (v := (x2 + 1)) (lv' := [(2, .int (x2 + 1)), (4, .int (r_4 - r_6)), (3, .int r_2), (0, .ref (q 81)), (1, .int x1)]) hx hb dX4_measure_70 hl (k := 4) rfl rfl (by decide) rfl (fun ls hl => ?_)
            refine lv_goto (tgt := 12) hx hb dX4_measure_73 (by decide) ?_
            exact ih12 x1 (x2 + 1) _ _ _ ls hP hS (lv_sub hl [3, 4, 0] rfl) h
      refine lv_iload_n hx hb dX4_measure_2 rfl (lv_at hl 1 rfl) ?_
      refine lv_aload_n hx hb dX4_measure_3 rfl (lv_at hl 0 rfl) ?_
      refine z_get hx hb hU uU_X4 hown hK hP (p_81 hW) rfl rfl 4 (by decide) (hU _ uF_X4_42) rfl dX4_measure_4 ?_
      refine z_icmp_ge (tgt := 82) hx hb dX4_measure_7 (by decide) h (fun h => ?_) (fun h => ?_)
      · refine lv_aload_n hx hb dX4_measure_82 rfl (lv_at hl 0 rfl) ?_
        refine z_get hx hb hU uU_X4 hown hK hP (p_81 hW) rfl rfl 8 (by decide) (hU _ uF_X4_39) rfl dX4_measure_83 ?_
        refine z_callV_v hx hb hml hown hU hK hN hP hS 0 (pT_92 hW) rfl rfl (zU_V uL_X4_49 uI_X1_drop uS_X1_drop uN_X1 uC_X1_drop) yd_X1_drop ⟨rfl, rfl⟩ ⟨Nat.le_of_ble_eq_true rfl, Nat.le_of_ble_eq_true rfl⟩ (As := []) (fun o h9 => ctX1_drop hq (pT_92 hW) h9) rfl hl.1 rfl (Nat.le_of_ble_eq_true rfl) dX4_measure_86 ⟨Nat.zero_le _, Nat.zero_le _⟩ h (fun S_9 H locs hP hS h => ?_)
        refine lv_aload_n hx hb dX4_measure_89 rfl (lv_at hl 0 rfl) ?_
        refine z_get hx hb hU uU_X4 hown hK hP (p_81 hW) rfl rfl 6 (by decide) (hU _ uF_X4_32) rfl dX4_measure_90 ?_
        refine z_callV_i hx hb hml hown hU hK hN hP hS 0 (pT_90 hW) rfl rfl (zU_V uL_X4_63 uI_X1_isNone uS_X1_isNone uN_X1 uC_X1_isNone) yd_X1_isNone ⟨rfl, rfl⟩ ⟨Nat.le_of_ble_eq_true rfl, Nat.le_of_ble_eq_true rfl⟩ (As := []) (fun o h9 => ctX1_isNone hq (pT_90 hW) h9) rfl hl.1 rfl (Nat.le_of_ble_eq_true rfl) dX4_measure_93 ⟨Nat.zero_le _, Nat.zero_le _⟩ h (fun r_11 S_10 H locs hP hS h => ?_)
        refine z_if_ne (tgt := 150) hx hb dX4_measure_96 (by decide) h (fun h => ?_) (fun h => ?_)
        · refine lv_aload_n hx hb dX4_measure_150 rfl (lv_at hl 0 rfl) ?_
          refine z_get hx hb hU uU_X4 hown hK hP (p_81 hW) rfl rfl 8 (by decide) (hU _ uF_X4_39) rfl dX4_measure_151 ?_
          exact z_sret hx hb hlocks hP hS hQ hr dX4_measure_154 h
        · refine lv_aload_n hx hb dX4_measure_99 rfl (lv_at hl 0 rfl) ?_
          refine z_get hx hb hU uU_X4 hown hK hP (p_81 hW) rfl rfl 8 (by decide) (hU _ uF_X4_39) rfl dX4_measure_100 ?_
          refine lv_aload_n hx hb dX4_measure_103 rfl (lv_at hl 0 rfl) ?_
          refine z_get hx hb hU uU_X4 hown hK hP (p_81 hW) rfl rfl 6 (by decide) (hU _ uF_X4_32) rfl dX4_measure_104 ?_
          refine z_get hx hb hU uU_X1 hown hK hP (pT_90 hW) rfl rfl 0 (by decide) (hU _ uF_X4_67) rfl dX4_measure_107 ?_
          refine lv_lneg hx hb dX4_measure_110 ?_
          refine lv_ldc2 (v := 2) hx hb hown (hU _ uK_X4_79) dX4_measure_111 ?_
          refine lv_aload_n hx hb dX4_measure_114 rfl (lv_at hl 0 rfl) ?_
          refine z_get hx hb hU uU_X4 hown hK hP (p_81 hW) rfl rfl 6 (by decide) (hU _ uF_X4_32) rfl dX4_measure_115 ?_
          refine z_get hx hb hU uU_X1 hown hK hP (pT_90 hW) rfl rfl 1 (by decide) (hU _ uF_X4_81) rfl dX4_measure_118 ?_
          refine lv_lmul hx hb dX4_measure_121 ?_
          refine z_callV_v hx hb hml hown hU hK hN hP hS 2 (pT_92 hW) rfl rfl (zU_V uL_X4_56 uI_X1_lowerTo uS_X1_lowerTo uN_X1 uC_X1_lowerTo) yd_X1_lowerTo ⟨rfl, rfl⟩ ⟨Nat.le_of_ble_eq_true rfl, Nat.le_of_ble_eq_true rfl⟩ (As := [.long (-(S_10.2 90 0)), .long (2 * (S_10.2 90 1))]) (fun o h9 => ctX1_lowerTo hq (pT_92 hW) h9) rfl hl.1 rfl (Nat.le_of_ble_eq_true rfl) dX4_measure_122 ⟨Nat.zero_le _, Nat.zero_le _⟩ h (fun S_12 H locs hP hS h => ?_)
          refine lv_aload_n hx hb dX4_measure_125 rfl (lv_at hl 0 rfl) ?_
          refine z_get hx hb hU uU_X4 hown hK hP (p_81 hW) rfl rfl 8 (by decide) (hU _ uF_X4_39) rfl dX4_measure_126 ?_
          refine lv_aload_n hx hb dX4_measure_129 rfl (lv_at hl 0 rfl) ?_
          refine z_get hx hb hU uU_X4 hown hK hP (p_81 hW) rfl rfl 7 (by decide) (hU _ uF_X4_36) rfl dX4_measure_130 ?_
          refine z_get hx hb hU uU_X1 hown hK hP (pT_91 hW) rfl rfl 0 (by decide) (hU _ uF_X4_67) rfl dX4_measure_133 ?_
          refine lv_ldc2 (v := 2) hx hb hown (hU _ uK_X4_79) dX4_measure_136 ?_
          refine lv_aload_n hx hb dX4_measure_139 rfl (lv_at hl 0 rfl) ?_
          refine z_get hx hb hU uU_X4 hown hK hP (p_81 hW) rfl rfl 7 (by decide) (hU _ uF_X4_36) rfl dX4_measure_140 ?_
          refine z_get hx hb hU uU_X1 hown hK hP (pT_91 hW) rfl rfl 1 (by decide) (hU _ uF_X4_81) rfl dX4_measure_143 ?_
          refine lv_lmul hx hb dX4_measure_146 ?_
          refine z_callV_v hx hb hml hown hU hK hN hP hS 2 (pT_92 hW) rfl rfl (zU_V uL_X4_56 uI_X1_lowerTo uS_X1_lowerTo uN_X1 uC_X1_lowerTo) yd_X1_lowerTo ⟨rfl, rfl⟩ ⟨Nat.le_of_ble_eq_true rfl, Nat.le_of_ble_eq_true rfl⟩ (As := [.long (S_12.2 91 0), .long (2 * (S_12.2 91 1))]) (fun o h9 => ctX1_lowerTo hq (pT_92 hW) h9) rfl hl.1 rfl (Nat.le_of_ble_eq_true rfl) dX4_measure_147 ⟨Nat.zero_le _, Nat.zero_le _⟩ h (fun S_13 H locs hP hS h => ?_)
          refine lv_aload_n hx hb dX4_measure_150 rfl (lv_at hl 0 rfl) ?_
          refine z_get hx hb hU uU_X4 hown hK hP (p_81 hW) rfl rfl 8 (by decide) (hU _ uF_X4_39) rfl dX4_measure_151 ?_
          exact z_sret hx hb hlocks hP hS hQ hr dX4_measure_154 h
      · refine lv_iconst (v := 0) hx hb dX4_measure_10 rfl ?_
        refine lv_istore_n (lv' := [(2, .int 0), (0, .ref (q 81)), (1, .int x1)]) hx hb dX4_measure_11 rfl hl (by decide) rfl (fun ls hl => ?_)
        exact L12 zF x1 0 _ _ _ ls hP hS (lv_sub hl [1, 2, 0] rfl) h
  refine lv_iconst (v := 0) hx hb dX4_measure_0 rfl ?_
  refine lv_istore_n (lv' := [(1, .int 0), (0, .ref (q 81))]) hx hb dX4_measure_1 rfl hl (by decide) rfl (fun ls hl => ?_)
  exact L2 zF 0 _ _ _ ls hP hS (lv_sub hl [1, 0] rfl) h

def fX5_marginAt (a1 : Int32) (S : zT) : Option zT :=
  zbv (fX5_gatherFeet a1 S) fun S_1 =>
  zbv (fX4_measure S_1) fun S_2 =>
  some S_2
abbrev rmX5_marginAt : Room := { frames := 3, cells := 0, slots := 0, locals := 68 }
theorem yd_X5_marginAt : yX5_marginAt.cls = RX5 ∧ yX5_marginAt.cls ≠ "java/lang/invoke/MethodHandle" ∧ yX5_marginAt.cls ≠ "java/lang/invoke/VarHandle" ∧ (parseMethodDescriptor yX5_marginAt.desc).map (fun d => d.parameters.length) = some 1 := by decide +kernel
set_option maxRecDepth 100000 in
set_option maxHeartbeats 4000000 in
theorem ctX5_marginAt {l : Launch} {dC : Nat → ClassId} {dI : Nat → Nat → Nat} {cI : ClassId × ClassId} {cW : List zSh} {q : Nat → Nat} (hq : zI cW q) (hW : zIs cI cW) {a1 : Int32} {S : zT} {o : zT} (h : fX5_marginAt a1 S = some o) : zCs l dC dI cI cW q yX5_marginAt (Cond.code yX5_marginAt cX5_marginAt 2 (some (.object "LegBench$Ratio")) :: zU) rmX5_marginAt [.ref (q 67), .int a1] S 92 o := by
  refine zMet_s (lv := [(0, .ref (q 67)), (1, .int a1)]) (by decide) (Nat.le_of_ble_eq_true rfl) rfl ?_
  intro p e s m args below meth c Q hx hb hml hr hU hown hlocks hK hN hP hS ls hl hQ
  replace hown : s.vm.findClass RX5 = some m.cls := hown
  unfold fX5_marginAt at h
  refine lv_aload_n hx hb dX5_marginAt_0 rfl (lv_at hl 0 rfl) ?_
  refine lv_iload_n hx hb dX5_marginAt_1 rfl (lv_at hl 1 rfl) ?_
  refine z_callV_v hx hb hml hown hU hK hN hP hS 1 (p_67 hW) rfl rfl (zU_V uL_X5_129 uI_X5_gatherFeet uS_X5_gatherFeet uN_X5 uC_X5_gatherFeet) yd_X5_gatherFeet ⟨rfl, rfl⟩ ⟨Nat.le_of_ble_eq_true rfl, Nat.le_of_ble_eq_true rfl⟩ (As := [.int a1]) (fun o h9 => ctX5_gatherFeet hq hW h9) rfl hl.1 rfl (Nat.le_of_ble_eq_true rfl) dX5_marginAt_2 ⟨Nat.zero_le _, Nat.zero_le _⟩ h (fun S_1 H locs hP hS h => ?_)
  refine lv_aload_n hx hb dX5_marginAt_5 rfl (lv_at hl 0 rfl) ?_
  refine z_get hx hb hU uU_X5 hown hK hP (p_67 hW) rfl rfl 5 (by decide) (hU _ uF_X5_36) rfl dX5_marginAt_6 ?_
  refine z_callV_s hx hb hml hown hU hK hN hP hS 0 (p_81 hW) rfl rfl (zU_V uL_X5_151 uI_X4_measure uS_X4_measure uN_X4 uC_X4_measure) yd_X4_measure ⟨rfl, rfl⟩ ⟨Nat.le_of_ble_eq_true rfl, Nat.le_of_ble_eq_true rfl⟩ (As := []) (fun o h9 => ctX4_measure hq hW h9) rfl hl.1 rfl (Nat.le_of_ble_eq_true rfl) dX5_marginAt_9 ⟨Nat.zero_le _, Nat.zero_le _⟩ h (fun S_2 H locs hP hS h => ?_)
  exact z_sret hx hb hlocks hP hS hQ hr dX5_marginAt_12 h

def fX1_shorten_45 (b : Nat) (x1 : Int64) (S : zT) : Option zT :=
  (if (lg_cmp x1 0) ≤ 0 then some S else if ¬ x1 = 0 then zlet (zsl S b 0 ((S.2 b 0) / x1)) fun S_1 =>
  if ¬ x1 = 0 then zlet (zsl S_1 b 1 ((S_1.2 b 1) / x1)) fun S_2 =>
  some S_2 else none else none)
def fX1_shorten_16 (b : Nat) (rec : Int64 → Int64 → Int32 → zT → Option zT) (x1 : Int64) (x3 : Int64) (x5 : Int32) (S : zT) : Option zT :=
  (if 100 ≤ x5 then (fX1_shorten_45 b) x1 S else (if (lg_cmp x3 0) = 0 then (fX1_shorten_45 b) x1 S else if ¬ x3 = 0 then rec x3 (x1 - x1 / x3 * x3) (x5 + 1) S else none))
def fX1_shorten (b : Nat) (S : zT) : Option zT :=
  (zfix (fun _ _ _ _ => none) (fX1_shorten_16 b) zF) (S.2 b 1) (if 0 < (S.2 b 0) then (S.2 b 0) else -(S.2 b 0)) 0 S
abbrev rmX1_shorten : Room := { frames := 1, cells := 0, slots := 0, locals := 29 }
theorem yd_X1_shorten : yX1_shorten.cls = RX1 ∧ yX1_shorten.cls ≠ "java/lang/invoke/MethodHandle" ∧ yX1_shorten.cls ≠ "java/lang/invoke/VarHandle" ∧ (parseMethodDescriptor yX1_shorten.desc).map (fun d => d.parameters.length) = some 0 := by decide +kernel
set_option maxRecDepth 100000 in
set_option maxHeartbeats 4000000 in
theorem ctX1_shorten {l : Launch} {dC : Nat → ClassId} {dI : Nat → Nat → Nat} {cI : ClassId × ClassId} {cW : List zSh} {q : Nat → Nat} (hq : zI cW q) {b : Nat} (hb0 : isRat cI cW b) {S : zT} {o : zT} (h : fX1_shorten b S = some o) : zCv l dC dI cI cW q yX1_shorten (Cond.code yX1_shorten cX1_shorten 8 none :: zU) rmX1_shorten [.ref (q b)] S o := by
  refine zMet_v (lv := [(0, .ref (q b))]) (by decide) (Nat.le_of_ble_eq_true rfl) rfl ?_
  intro p e s m args below meth c Q hx hb hml hr hU hown hlocks hK hN hP hS ls hl hQ
  replace hown : s.vm.findClass RX1 = some m.cls := hown
  unfold fX1_shorten at h
  have L16 : ∀ (n16 : Nat) (x1 : Int64) (x3 : Int64) (x5 : Int32) (S : zT) (H : Heap) (locs : List Loc) (ls : Array Slot), va_P (dC, dI) vwCl (zWd cI cW q S) H → va_S (zA cW q) s.heap H locs → lv_has ls 8 [(0, .ref (q b)), (1, .long x1), (3, .long x3), (5, .int x5)] → (zfix (fun _ _ _ _ => none) (fX1_shorten_16 b) n16) x1 x3 x5 S = some o → W p l e rmX1_shorten s m args below meth c H locs 0 0 Q (F0 m 16 ls []) := by
    intro n16
    induction n16 with
    | zero => intro x1 x3 x5 S H locs ls hP hS hl h; exact zno (show (none : Option zT) = some o from h)
    | succ n16 ih16 =>
      intro x1 x3 x5 S H locs ls hP hS hl h
      replace h : fX1_shorten_16 b (zfix (fun _ _ _ _ => none) (fX1_shorten_16 b) n16) x1 x3 x5 S = some o := h
      unfold fX1_shorten_16 at h
      have L45 : ∀ (x1 : Int64) (S : zT) (H : Heap) (locs : List Loc) (ls : Array Slot), va_P (dC, dI) vwCl (zWd cI cW q S) H → va_S (zA cW q) s.heap H locs → lv_has ls 8 [(0, .ref (q b)), (1, .long x1)] → (fX1_shorten_45 b) x1 S = some o → W p l e rmX1_shorten s m args below meth c H locs 0 0 Q (F0 m 45 ls []) := by
        intro x1 S H locs ls hP hS hl h
        unfold fX1_shorten_45 at h
        refine lv_lload_n hx hb dX1_shorten_45 rfl (lv_at hl 1 rfl) ?_
        refine lv_lconst (v := 0) hx hb dX1_shorten_46 rfl ?_
        refine W.lcmp hx hb dX1_shorten_47 ?_
        refine z_if_le (tgt := 71) hx hb dX1_shorten_48 (by decide) h (fun h => ?_) (fun h => ?_)
        · exact z_vret hx hb hlocks hP hS hQ hr dX1_shorten_71 h
        · refine lv_aload_n hx hb dX1_shorten_51 rfl (lv_at hl 0 rfl) ?_
          refine lv_dup hx hb dX1_shorten_52 rfl ?_
          refine z_get hx hb hU uU_X1 hown hK hP hb0 rfl rfl 0 (by decide) (hU _ uF_X1_7) rfl dX1_shorten_53 ?_
          refine lv_lload_n hx hb dX1_shorten_56 rfl (lv_at hl 1 rfl) ?_
          refine z_ldiv hx hb dX1_shorten_57 h (fun h => ?_)
          refine z_putl hx hb hU uU_X1 tyX1 tyX1_ok nmX1 hown hq hK hP hS hb0 rfl rfl 0 (by decide) (hU _ uF_X1_7) rfl rfl rfl (Nat.le_of_ble_eq_true rfl) rfl dX1_shorten_58 h (fun S_1 H locs hP hS h => ?_)
          refine lv_aload_n hx hb dX1_shorten_61 rfl (lv_at hl 0 rfl) ?_
          refine lv_dup hx hb dX1_shorten_62 rfl ?_
          refine z_get hx hb hU uU_X1 hown hK hP hb0 rfl rfl 1 (by decide) (hU _ uF_X1_13) rfl dX1_shorten_63 ?_
          refine lv_lload_n hx hb dX1_shorten_66 rfl (lv_at hl 1 rfl) ?_
          refine z_ldiv hx hb dX1_shorten_67 h (fun h => ?_)
          refine z_putl hx hb hU uU_X1 tyX1 tyX1_ok nmX1 hown hq hK hP hS hb0 rfl rfl 1 (by decide) (hU _ uF_X1_13) rfl rfl rfl (Nat.le_of_ble_eq_true rfl) rfl dX1_shorten_68 h (fun S_2 H locs hP hS h => ?_)
          exact z_vret hx hb hlocks hP hS hQ hr dX1_shorten_71 h
      refine lv_iload hx hb dX1_shorten_16 (lv_at hl 3 rfl) ?_
      refine lv_bipush (v := 100) hx hb dX1_shorten_18 rfl ?_
      refine z_icmp_ge (tgt := 45) hx hb dX1_shorten_20 (by decide) h (fun h => ?_) (fun h => ?_)
      · exact L45 x1 _ _ _ ls hP hS (lv_sub hl [0, 1] rfl) h
      · refine lv_lload_n hx hb dX1_shorten_23 rfl (lv_at hl 2 rfl) ?_
        refine lv_lconst (v := 0) hx hb dX1_shorten_24 rfl ?_
        refine W.lcmp hx hb dX1_shorten_25 ?_
        refine z_if_eq (tgt := 45) hx hb dX1_shorten_26 (by decide) h (fun h => ?_) (fun h => ?_)
        · exact L45 x1 _ _ _ ls hP hS (lv_sub hl [0, 1] rfl) h
        · refine lv_lload_n hx hb dX1_shorten_29 rfl (lv_at hl 1 rfl) ?_
          refine lv_lload_n hx hb dX1_shorten_30 rfl (lv_at hl 2 rfl) ?_
          refine z_lrem hx hb dX1_shorten_31 h (fun h => ?_)
          refine lv_lstore (lv' := [(6, .long (x1 - x1 / x3 * x3)), (0, .ref (q b)), (1, .long x1), (3, .long x3), (5, .int x5)]) hx hb dX1_shorten_32 hl (by decide) rfl (fun ls hl => ?_)
          refine lv_lload_n hx hb dX1_shorten_34 rfl (lv_at hl 3 rfl) ?_
          refine lv_lstore_n (lv' := [(1, .long x3), (6, .long (x1 - x1 / x3 * x3)), (0, .ref (q b)), (3, .long x3), (5, .int x5)]) hx hb dX1_shorten_35 rfl hl (by decide) rfl (fun ls hl => ?_)
          refine lv_lload hx hb dX1_shorten_36 (lv_at hl 1 rfl) ?_
          refine lv_lstore_n (lv' := [(3, .long (x1 - x1 / x3 * x3)), (1, .long x3), (6, .long (x1 - x1 / x3 * x3)), (0, .ref (q b)), (5, .int x5)]) hx hb dX1_shorten_38 rfl hl (by decide) rfl (fun ls hl => ?_)
          refine lv_iinc (v := (x5 + 1)) (lv' := [(5, .int (x5 + 1)), (3, .long (x1 - x1 / x3 * x3)), (1, .long x3), (6, .long (x1 - x1 / x3 * x3)), (0, .ref (q b))]) hx hb dX1_shorten_39 hl (k := 4) rfl rfl (by decide) rfl (fun ls hl => ?_)
          refine lv_goto (tgt := 16) hx hb dX1_shorten_42 (by decide) ?_
          exact ih16 x3 (x1 - x1 / x3 * x3) (x5 + 1) _ _ _ ls hP hS (lv_sub hl [4, 2, 1, 0] rfl) h
  refine lv_aload_n hx hb dX1_shorten_0 rfl (lv_at hl 0 rfl) ?_
  refine z_get hx hb hU uU_X1 hown hK hP hb0 rfl rfl 1 (by decide) (hU _ uF_X1_13) rfl dX1_shorten_1 ?_
  refine lv_lstore_n (lv' := [(1, .long (S.2 b 1)), (0, .ref (q b))]) hx hb dX1_shorten_4 rfl hl (by decide) rfl (fun ls hl => ?_)
  refine lv_aload_n hx hb dX1_shorten_5 rfl (lv_at hl 1 rfl) ?_
  refine z_get hx hb hU uU_X1 hown hK hP hb0 rfl rfl 0 (by decide) (hU _ uF_X1_7) rfl dX1_shorten_6 ?_
  refine va_mabs_long hx hb (hml.trans hl.1.symm) hown (hU _ uL_X1_16) (hU _ uT_J9_abs_067f4) (hU _ uN_J9) (hU _ uC_J9_abs_067f4) (Nat.le_of_ble_eq_true rfl) (Nat.le_of_ble_eq_true rfl) (Nat.zero_le _) (Nat.zero_le _) dX1_shorten_9 ?_
  refine lv_lstore_n (lv' := [(3, .long (if 0 < (S.2 b 0) then (S.2 b 0) else -(S.2 b 0))), (1, .long (S.2 b 1)), (0, .ref (q b))]) hx hb dX1_shorten_12 rfl hl (by decide) rfl (fun ls hl => ?_)
  refine lv_iconst (v := 0) hx hb dX1_shorten_13 rfl ?_
  refine lv_istore (lv' := [(5, .int 0), (3, .long (if 0 < (S.2 b 0) then (S.2 b 0) else -(S.2 b 0))), (1, .long (S.2 b 1)), (0, .ref (q b))]) hx hb dX1_shorten_14 hl (by decide) rfl (fun ls hl => ?_)
  exact L16 zF (S.2 b 1) (if 0 < (S.2 b 0) then (S.2 b 0) else -(S.2 b 0)) 0 _ _ _ ls hP hS (lv_sub hl [3, 2, 1, 0] rfl) h

def fX7_partOf (b0 : Nat) (a1 : Int32) (S : zT) : Option (Int64 × zT) :=
  zbi (fX1_isNone b0 S) fun r_2 S_1 =>
  (if r_2 = 0 then zbv (fX1_shorten b0 S_1) fun S_3 =>
  (if a1 = 0 then some ((S_3.2 b0 0), S_3) else some ((S_3.2 b0 1), S_3)) else some ((-10000), S_1))
abbrev rmX7_partOf : Room := { frames := 2, cells := 0, slots := 0, locals := 56 }
theorem yd_X7_partOf : yX7_partOf.cls ≠ "java/lang/invoke/MethodHandle" ∧ yX7_partOf.cls ≠ "java/lang/invoke/VarHandle" ∧ (parseMethodDescriptor yX7_partOf.desc).map (fun d => d.parameters.length) = some 2 := by decide +kernel
set_option maxRecDepth 100000 in
set_option maxHeartbeats 4000000 in
theorem ctX7_partOf {l : Launch} {dC : Nat → ClassId} {dI : Nat → Nat → Nat} {cI : ClassId × ClassId} {cW : List zSh} {q : Nat → Nat} (hq : zI cW q) {b0 : Nat} (hb0 : isRat cI cW b0) {a1 : Int32} {S : zT} {o : Int64 × zT} (h : fX7_partOf b0 a1 S = some o) : zCl l dC dI cI cW q yX7_partOf (Cond.code yX7_partOf cX7_partOf 2 (some .long) :: zU) rmX7_partOf [.ref (q b0), .int a1] S o := by
  refine zMet_l (lv := [(0, .ref (q b0)), (1, .int a1)]) (by decide) (Nat.le_of_ble_eq_true rfl) rfl ?_
  intro p e s m args below meth c Q hx hb hml hr hU hown hlocks hK hN hP hS ls hl hQ
  replace hown : s.vm.findClass RX7 = some m.cls := hown
  unfold fX7_partOf at h
  refine lv_aload_n hx hb dX7_partOf_0 rfl (lv_at hl 0 rfl) ?_
  refine z_callV_i hx hb hml hown hU hK hN hP hS 0 hb0 rfl rfl (zU_V uL_X7_235 uI_X1_isNone uS_X1_isNone uN_X1 uC_X1_isNone) yd_X1_isNone ⟨rfl, rfl⟩ ⟨Nat.le_of_ble_eq_true rfl, Nat.le_of_ble_eq_true rfl⟩ (As := []) (fun o h9 => ctX1_isNone hq hb0 h9) rfl hl.1 rfl (Nat.le_of_ble_eq_true rfl) dX7_partOf_1 ⟨Nat.zero_le _, Nat.zero_le _⟩ h (fun r_2 S_1 H locs hP hS h => ?_)
  refine z_if_eq (tgt := 11) hx hb dX7_partOf_4 (by decide) h (fun h => ?_) (fun h => ?_)
  · refine lv_aload_n hx hb dX7_partOf_11 rfl (lv_at hl 0 rfl) ?_
    refine z_callV_v hx hb hml hown hU hK hN hP hS 0 hb0 rfl rfl (zU_V uL_X7_238 uI_X1_shorten uS_X1_shorten uN_X1 uC_X1_shorten) yd_X1_shorten ⟨rfl, rfl⟩ ⟨Nat.le_of_ble_eq_true rfl, Nat.le_of_ble_eq_true rfl⟩ (As := []) (fun o h9 => ctX1_shorten hq hb0 h9) rfl hl.1 rfl (Nat.le_of_ble_eq_true rfl) dX7_partOf_12 ⟨Nat.zero_le _, Nat.zero_le _⟩ h (fun S_3 H locs hP hS h => ?_)
    refine lv_iload_n hx hb dX7_partOf_15 rfl (lv_at hl 1 rfl) ?_
    refine z_if_ne (tgt := 26) hx hb dX7_partOf_16 (by decide) h (fun h => ?_) (fun h => ?_)
    · refine lv_aload_n hx hb dX7_partOf_26 rfl (lv_at hl 0 rfl) ?_
      refine z_get hx hb hU uU_X1 hown hK hP hb0 rfl rfl 1 (by decide) (hU _ uF_X7_245) rfl dX7_partOf_27 ?_
      exact z_lret hx hb hlocks hP hS hQ hr dX7_partOf_30 h
    · refine lv_aload_n hx hb dX7_partOf_19 rfl (lv_at hl 0 rfl) ?_
      refine z_get hx hb hU uU_X1 hown hK hP hb0 rfl rfl 0 (by decide) (hU _ uF_X7_241) rfl dX7_partOf_20 ?_
      refine lv_goto (tgt := 30) hx hb dX7_partOf_23 (by decide) ?_
      exact z_lret hx hb hlocks hP hS hQ hr dX7_partOf_30 h
  · refine lv_ldc2 (v := (-10000)) hx hb hown (hU _ uK_X7_169) dX7_partOf_7 ?_
    exact z_lret hx hb hlocks hP hS hQ hr dX7_partOf_10 h

def fX7_margin (a1 : Int32) (a2 : Int32) (S : zT) : Option (Int64 × zT) :=
  zbi (fX6_hasTick 1 a1 S) fun r_2 S_1 =>
  (if r_2 = 0 then some ((-10000), S_1) else zbi (fX7_isWithin a2 0 1 S_1) fun r_4 S_3 =>
  (if r_4 = 0 then some ((-10000), S_3) else zbv (fX7_tryOut S_3) fun S_5 =>
  zbv (fX5_marginAt a1 S_5) fun S_6 =>
  zbl (fX7_partOf 92 a2 S_6) fun r_8 S_7 =>
  some (r_8, S_7)))
abbrev rmX7_margin : Room := { frames := 6, cells := 0, slots := 0, locals := 132 }
theorem yd_X7_margin : yX7_margin.cls = RX7 ∧ yX7_margin.cls ≠ "java/lang/invoke/MethodHandle" ∧ yX7_margin.cls ≠ "java/lang/invoke/VarHandle" ∧ (parseMethodDescriptor yX7_margin.desc).map (fun d => d.parameters.length) = some 2 := by decide +kernel
set_option maxRecDepth 100000 in
set_option maxHeartbeats 4000000 in
theorem ctX7_margin {l : Launch} {dC : Nat → ClassId} {dI : Nat → Nat → Nat} {cI : ClassId × ClassId} {cW : List zSh} {q : Nat → Nat} (hq : zI cW q) (hW : zIs cI cW) {a1 : Int32} {a2 : Int32} {S : zT} {o : Int64 × zT} (h : fX7_margin a1 a2 S = some o) : zCl l dC dI cI cW q yX7_margin (Cond.code yX7_margin cX7_margin 3 (some .long) :: zU) rmX7_margin [.ref (q 0), .int a1, .int a2] S o := by
  refine zMet_l (lv := [(0, .ref (q 0)), (1, .int a1), (2, .int a2)]) (by decide) (Nat.le_of_ble_eq_true rfl) rfl ?_
  intro p e s m args below meth c Q hx hb hml hr hU hown hlocks hK hN hP hS ls hl hQ
  replace hown : s.vm.findClass RX7 = some m.cls := hown
  unfold fX7_margin at h
  refine lv_aload_n hx hb dX7_margin_0 rfl (lv_at hl 0 rfl) ?_
  refine z_get hx hb hU uU_X7 hown hK hP (p_0 hW) rfl rfl 0 (by decide) (hU _ uF_X7_12) rfl dX7_margin_1 ?_
  refine lv_iload_n hx hb dX7_margin_4 rfl (lv_at hl 1 rfl) ?_
  refine z_callV_i hx hb hml hown hU hK hN hP hS 1 (pW_1 hW).1 rfl rfl (zU_V uL_X7_115 uI_X6_hasTick uS_X6_hasTick uN_X6 uC_X6_hasTick) yd_X6_hasTick ⟨rfl, rfl⟩ ⟨Nat.le_of_ble_eq_true rfl, Nat.le_of_ble_eq_true rfl⟩ (As := [.int a1]) (fun o h9 => ctX6_hasTick hq (pW_1 hW) h9) rfl hl.1 rfl (Nat.le_of_ble_eq_true rfl) dX7_margin_5 ⟨Nat.zero_le _, Nat.zero_le _⟩ h (fun r_2 S_1 H locs hP hS h => ?_)
  refine z_if_eq (tgt := 20) hx hb dX7_margin_8 (by decide) h (fun h => ?_) (fun h => ?_)
  · refine lv_ldc2 (v := (-10000)) hx hb hown (hU _ uK_X7_169) dX7_margin_20 ?_
    exact z_lret hx hb hlocks hP hS hQ hr dX7_margin_23 h
  · refine lv_iload_n hx hb dX7_margin_11 rfl (lv_at hl 2 rfl) ?_
    refine lv_iconst (v := 0) hx hb dX7_margin_12 rfl ?_
    refine lv_iconst (v := 1) hx hb dX7_margin_13 rfl ?_
    refine z_callS_i hx hb hml hown hU hK hN hP hS 3 (zU_J uL_X7_63 uT_X7_isWithin uN_X7 uC_X7_isWithin) yd_X7_isWithin ⟨rfl, rfl⟩ ⟨Nat.le_of_ble_eq_true rfl, Nat.le_of_ble_eq_true rfl⟩ (As := [.int a2, .int 0, .int 1]) (fun o h9 => ctX7_isWithin hq  h9) rfl hl.1 rfl (Nat.le_of_ble_eq_true rfl) dX7_margin_14 ⟨Nat.zero_le _, Nat.zero_le _⟩ h (fun r_4 S_3 H locs hP hS h => ?_)
    refine z_if_ne (tgt := 24) hx hb dX7_margin_17 (by decide) h (fun h => ?_) (fun h => ?_)
    · refine lv_aload_n hx hb dX7_margin_24 rfl (lv_at hl 0 rfl) ?_
      refine z_callV_v hx hb hml hown hU hK hN hP hS 0 (p_0 hW) rfl rfl (zU_V uL_X7_151 uI_X7_tryOut uS_X7_tryOut uN_X7 uC_X7_tryOut) yd_X7_tryOut ⟨rfl, rfl⟩ ⟨Nat.le_of_ble_eq_true rfl, Nat.le_of_ble_eq_true rfl⟩ (As := []) (fun o h9 => ctX7_tryOut hq hW h9) rfl hl.1 rfl (Nat.le_of_ble_eq_true rfl) dX7_margin_25 ⟨Nat.zero_le _, Nat.zero_le _⟩ h (fun S_5 H locs hP hS h => ?_)
      refine lv_aload_n hx hb dX7_margin_28 rfl (lv_at hl 0 rfl) ?_
      refine z_get hx hb hU uU_X7 hown hK hP (p_0 hW) rfl rfl 3 (by decide) (hU _ uF_X7_34) rfl dX7_margin_29 ?_
      refine lv_iload_n hx hb dX7_margin_32 rfl (lv_at hl 1 rfl) ?_
      refine z_callV_s hx hb hml hown hU hK hN hP hS 1 (p_67 hW) rfl rfl (zU_V uL_X7_171 uI_X5_marginAt uS_X5_marginAt uN_X5 uC_X5_marginAt) yd_X5_marginAt ⟨rfl, rfl⟩ ⟨Nat.le_of_ble_eq_true rfl, Nat.le_of_ble_eq_true rfl⟩ (As := [.int a1]) (fun o h9 => ctX5_marginAt hq hW h9) rfl hl.1 rfl (Nat.le_of_ble_eq_true rfl) dX7_margin_33 ⟨Nat.zero_le _, Nat.zero_le _⟩ h (fun S_6 H locs hP hS h => ?_)
      refine lv_iload_n hx hb dX7_margin_36 rfl (lv_at hl 2 rfl) ?_
      refine z_callS_l hx hb hml hown hU hK hN hP hS 2 (zU_J uL_X7_175 uT_X7_partOf uN_X7 uC_X7_partOf) yd_X7_partOf ⟨rfl, rfl⟩ ⟨Nat.le_of_ble_eq_true rfl, Nat.le_of_ble_eq_true rfl⟩ (As := [.ref (q 92), .int a2]) (fun o h9 => ctX7_partOf hq (pT_92 hW) h9) rfl hl.1 rfl (Nat.le_of_ble_eq_true rfl) dX7_margin_37 ⟨Nat.zero_le _, Nat.zero_le _⟩ h (fun r_8 S_7 H locs hP hS h => ?_)
      exact z_lret hx hb hlocks hP hS hQ hr dX7_margin_40 h
    · refine lv_ldc2 (v := (-10000)) hx hb hown (hU _ uK_X7_169) dX7_margin_20 ?_
      exact z_lret hx hb hlocks hP hS hQ hr dX7_margin_23 h

def fX1_isLessThan (b b1 : Nat) (S : zT) : Option (Int32 × zT) :=
  (if 0 ≤ (lg_cmp ((S.2 b 0) * (S.2 b1 1)) ((S.2 b1 0) * (S.2 b 1))) then some (0, S) else some (1, S))
abbrev rmX1_isLessThan : Room := { frames := 0, cells := 0, slots := 0, locals := 0 }
theorem yd_X1_isLessThan : yX1_isLessThan.cls = RX1 ∧ yX1_isLessThan.cls ≠ "java/lang/invoke/MethodHandle" ∧ yX1_isLessThan.cls ≠ "java/lang/invoke/VarHandle" ∧ (parseMethodDescriptor yX1_isLessThan.desc).map (fun d => d.parameters.length) = some 1 := by decide +kernel
set_option maxRecDepth 100000 in
set_option maxHeartbeats 4000000 in
theorem ctX1_isLessThan {l : Launch} {dC : Nat → ClassId} {dI : Nat → Nat → Nat} {cI : ClassId × ClassId} {cW : List zSh} {q : Nat → Nat} (hq : zI cW q) {b : Nat} {b1 : Nat} (hb0 : isRat cI cW b) (hb1 : isRat cI cW b1) {S : zT} {o : Int32 × zT} (h : fX1_isLessThan b b1 S = some o) : zCi l dC dI cI cW q yX1_isLessThan (Cond.code yX1_isLessThan cX1_isLessThan 2 (some .boolean) :: zU) rmX1_isLessThan [.ref (q b), .ref (q b1)] S o := by
  refine zMet_i (lv := [(0, .ref (q b)), (1, .ref (q b1))]) (by decide) (Nat.le_of_ble_eq_true rfl) rfl ?_
  intro p e s m args below meth c Q hx hb hml hr hU hown hlocks hK hN hP hS ls hl hQ
  replace hown : s.vm.findClass RX1 = some m.cls := hown
  unfold fX1_isLessThan at h
  refine lv_aload_n hx hb dX1_isLessThan_0 rfl (lv_at hl 0 rfl) ?_
  refine z_get hx hb hU uU_X1 hown hK hP hb0 rfl rfl 0 (by decide) (hU _ uF_X1_7) rfl dX1_isLessThan_1 ?_
  refine lv_aload_n hx hb dX1_isLessThan_4 rfl (lv_at hl 1 rfl) ?_
  refine z_get hx hb hU uU_X1 hown hK hP hb1 rfl rfl 1 (by decide) (hU _ uF_X1_13) rfl dX1_isLessThan_5 ?_
  refine lv_lmul hx hb dX1_isLessThan_8 ?_
  refine lv_aload_n hx hb dX1_isLessThan_9 rfl (lv_at hl 1 rfl) ?_
  refine z_get hx hb hU uU_X1 hown hK hP hb1 rfl rfl 0 (by decide) (hU _ uF_X1_7) rfl dX1_isLessThan_10 ?_
  refine lv_aload_n hx hb dX1_isLessThan_13 rfl (lv_at hl 0 rfl) ?_
  refine z_get hx hb hU uU_X1 hown hK hP hb0 rfl rfl 1 (by decide) (hU _ uF_X1_13) rfl dX1_isLessThan_14 ?_
  refine lv_lmul hx hb dX1_isLessThan_17 ?_
  refine W.lcmp hx hb dX1_isLessThan_18 ?_
  refine z_if_ge (tgt := 26) hx hb dX1_isLessThan_19 (by decide) h (fun h => ?_) (fun h => ?_)
  · refine lv_iconst (v := 0) hx hb dX1_isLessThan_26 rfl ?_
    exact z_zretC hx hb hlocks hP hS hQ hr dX1_isLessThan_27 (Or.inl rfl) h
  · refine lv_iconst (v := 1) hx hb dX1_isLessThan_22 rfl ?_
    refine lv_goto (tgt := 27) hx hb dX1_isLessThan_23 (by decide) ?_
    exact z_zretC hx hb hlocks hP hS hQ hr dX1_isLessThan_27 (Or.inr rfl) h

def fX1_copyFrom (b b1 : Nat) (S : zT) : Option zT :=
  zlet (zsl S b 0 (S.2 b1 0)) fun S_1 =>
  zlet (zsl S_1 b 1 (S_1.2 b1 1)) fun S_2 =>
  some S_2
abbrev rmX1_copyFrom : Room := { frames := 0, cells := 0, slots := 0, locals := 0 }
theorem yd_X1_copyFrom : yX1_copyFrom.cls = RX1 ∧ yX1_copyFrom.cls ≠ "java/lang/invoke/MethodHandle" ∧ yX1_copyFrom.cls ≠ "java/lang/invoke/VarHandle" ∧ (parseMethodDescriptor yX1_copyFrom.desc).map (fun d => d.parameters.length) = some 1 := by decide +kernel
set_option maxRecDepth 100000 in
set_option maxHeartbeats 4000000 in
theorem ctX1_copyFrom {l : Launch} {dC : Nat → ClassId} {dI : Nat → Nat → Nat} {cI : ClassId × ClassId} {cW : List zSh} {q : Nat → Nat} (hq : zI cW q) {b : Nat} {b1 : Nat} (hb0 : isRat cI cW b) (hb1 : isRat cI cW b1) {S : zT} {o : zT} (h : fX1_copyFrom b b1 S = some o) : zCv l dC dI cI cW q yX1_copyFrom (Cond.code yX1_copyFrom cX1_copyFrom 2 none :: zU) rmX1_copyFrom [.ref (q b), .ref (q b1)] S o := by
  refine zMet_v (lv := [(0, .ref (q b)), (1, .ref (q b1))]) (by decide) (Nat.le_of_ble_eq_true rfl) rfl ?_
  intro p e s m args below meth c Q hx hb hml hr hU hown hlocks hK hN hP hS ls hl hQ
  replace hown : s.vm.findClass RX1 = some m.cls := hown
  unfold fX1_copyFrom at h
  refine lv_aload_n hx hb dX1_copyFrom_0 rfl (lv_at hl 0 rfl) ?_
  refine lv_aload_n hx hb dX1_copyFrom_1 rfl (lv_at hl 1 rfl) ?_
  refine z_get hx hb hU uU_X1 hown hK hP hb1 rfl rfl 0 (by decide) (hU _ uF_X1_7) rfl dX1_copyFrom_2 ?_
  refine z_putl hx hb hU uU_X1 tyX1 tyX1_ok nmX1 hown hq hK hP hS hb0 rfl rfl 0 (by decide) (hU _ uF_X1_7) rfl rfl rfl (Nat.le_of_ble_eq_true rfl) rfl dX1_copyFrom_5 h (fun S_1 H locs hP hS h => ?_)
  refine lv_aload_n hx hb dX1_copyFrom_8 rfl (lv_at hl 0 rfl) ?_
  refine lv_aload_n hx hb dX1_copyFrom_9 rfl (lv_at hl 1 rfl) ?_
  refine z_get hx hb hU uU_X1 hown hK hP hb1 rfl rfl 1 (by decide) (hU _ uF_X1_13) rfl dX1_copyFrom_10 ?_
  refine z_putl hx hb hU uU_X1 tyX1 tyX1_ok nmX1 hown hq hK hP hS hb0 rfl rfl 1 (by decide) (hU _ uF_X1_13) rfl rfl rfl (Nat.le_of_ble_eq_true rfl) rfl dX1_copyFrom_13 h (fun S_2 H locs hP hS h => ?_)
  exact z_vret hx hb hlocks hP hS hQ hr dX1_copyFrom_16 h

