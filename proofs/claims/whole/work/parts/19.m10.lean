def fX8_whyNot_94 (k43 : Int32 → Int32 → zT → Option (Int32 × zT)) (x1 : Int32) (x2 : Int32) (S : zT) : Option (Int32 × zT) :=
  k43 x1 (x2 + 1) S
def fX8_whyNot_43 (k31 : Int32 → zT → Option (Int32 × zT)) (rec : Int32 → Int32 → zT → Option (Int32 × zT)) (x1 : Int32) (x2 : Int32) (S : zT) : Option (Int32 × zT) :=
  (if (S.1 102 6) ≤ x2 then k31 (x1 + 1) S else zbi (fX8_isDown x1 x2 S) fun r_2 S_1 =>
  (if r_2 = 0 then (fX8_whyNot_94 rec) x1 x2 S_1 else zbi (fX8_stance x1 x2 S_1) fun r_4 S_3 =>
  (if ((S_1.1 102 2) * (r_4 - 1)) ≤ (2 * (S_3.1 102 3)) then (fX8_whyNot_94 rec) x1 x2 S_3 else some ((100 + x1), S_3))))
def fX8_whyNot_31 (rec : Int32 → zT → Option (Int32 × zT)) (x1 : Int32) (S : zT) : Option (Int32 × zT) :=
  (if (S.1 102 0) ≤ x1 then some ((-1), S) else (zfix (fun _ _ _ => none) (fX8_whyNot_43 rec) zF) x1 0 S)
def fX8_whyNot_2 (rec : Int32 → zT → Option (Int32 × zT)) (x1 : Int32) (S : zT) : Option (Int32 × zT) :=
  (if (S.1 102 6) ≤ x1 then (zfix (fun _ _ => none) fX8_whyNot_31 zF) 0 S else zbi (fX8_standsAt x1 S) fun r_6 S_5 =>
  (if r_6 = 0 then some (x1, S_5) else rec (x1 + 1) S_5))
def fX8_whyNot (S : zT) : Option (Int32 × zT) :=
  (zfix (fun _ _ => none) fX8_whyNot_2 zF) 0 S
abbrev rmX8_whyNot : Room := { frames := 6, cells := 0, slots := 0, locals := 135 }
theorem yd_X8_whyNot : yX8_whyNot.cls = RX8 ∧ yX8_whyNot.cls ≠ "java/lang/invoke/MethodHandle" ∧ yX8_whyNot.cls ≠ "java/lang/invoke/VarHandle" ∧ (parseMethodDescriptor yX8_whyNot.desc).map (fun d => d.parameters.length) = some 0 := by decide +kernel
set_option maxRecDepth 100000 in
set_option maxHeartbeats 4000000 in
theorem ctX8_whyNot {l : Launch} {dC : Nat → ClassId} {dI : Nat → Nat → Nat} {cI : ClassId × ClassId} {cW : List zSh} {q : Nat → Nat} (hq : zI cW q) (hW : zIs cI cW) {S : zT} {o : Int32 × zT} (h : fX8_whyNot S = some o) : zCi l dC dI cI cW q yX8_whyNot (Cond.code yX8_whyNot cX8_whyNot 3 (some .int) :: zU) rmX8_whyNot [.ref (q 101)] S o := by
  refine zMet_i (lv := [(0, .ref (q 101))]) (by decide) (Nat.le_of_ble_eq_true rfl) rfl ?_
  intro p e s m args below meth c Q hx hb hml hr hU hown hlocks hK hN hP hS ls hl hQ
  replace hown : s.vm.findClass RX8 = some m.cls := hown
  unfold fX8_whyNot at h
  have L2 : ∀ (n2 : Nat) (x1 : Int32) (S : zT) (H : Heap) (locs : List Loc) (ls : Array Slot), va_P (dC, dI) vwCl (zWd cI cW q S) H → va_S (zA cW q) s.heap H locs → lv_has ls 3 [(0, .ref (q 101)), (1, .int x1)] → (zfix (fun _ _ => none) fX8_whyNot_2 n2) x1 S = some o → W p l e rmX8_whyNot s m args below meth c H locs 0 0 Q (F0 m 2 ls []) := by
    intro n2
    induction n2 with
    | zero => intro x1 S H locs ls hP hS hl h; exact zno (show (none : Option (Int32 × zT)) = some o from h)
    | succ n2 ih2 =>
      intro x1 S H locs ls hP hS hl h
      replace h : fX8_whyNot_2 (zfix (fun _ _ => none) fX8_whyNot_2 n2) x1 S = some o := h
      unfold fX8_whyNot_2 at h
      have L31 : ∀ (n31 : Nat) (x1 : Int32) (S : zT) (H : Heap) (locs : List Loc) (ls : Array Slot), va_P (dC, dI) vwCl (zWd cI cW q S) H → va_S (zA cW q) s.heap H locs → lv_has ls 3 [(0, .ref (q 101)), (1, .int x1)] → (zfix (fun _ _ => none) fX8_whyNot_31 n31) x1 S = some o → W p l e rmX8_whyNot s m args below meth c H locs 0 0 Q (F0 m 31 ls []) := by
        intro n31
        induction n31 with
        | zero => intro x1 S H locs ls hP hS hl h; exact zno (show (none : Option (Int32 × zT)) = some o from h)
        | succ n31 ih31 =>
          intro x1 S H locs ls hP hS hl h
          replace h : fX8_whyNot_31 (zfix (fun _ _ => none) fX8_whyNot_31 n31) x1 S = some o := h
          unfold fX8_whyNot_31 at h
          have L43 : ∀ (n43 : Nat) (x1 : Int32) (x2 : Int32) (S : zT) (H : Heap) (locs : List Loc) (ls : Array Slot), va_P (dC, dI) vwCl (zWd cI cW q S) H → va_S (zA cW q) s.heap H locs → lv_has ls 3 [(0, .ref (q 101)), (1, .int x1), (2, .int x2)] → (zfix (fun _ _ _ => none) (fX8_whyNot_43 (zfix (fun _ _ => none) fX8_whyNot_31 n31)) n43) x1 x2 S = some o → W p l e rmX8_whyNot s m args below meth c H locs 0 0 Q (F0 m 43 ls []) := by
            intro n43
            induction n43 with
            | zero => intro x1 x2 S H locs ls hP hS hl h; exact zno (show (none : Option (Int32 × zT)) = some o from h)
            | succ n43 ih43 =>
              intro x1 x2 S H locs ls hP hS hl h
              replace h : fX8_whyNot_43 (zfix (fun _ _ => none) fX8_whyNot_31 n31) (zfix (fun _ _ _ => none) (fX8_whyNot_43 (zfix (fun _ _ => none) fX8_whyNot_31 n31)) n43) x1 x2 S = some o := h
              unfold fX8_whyNot_43 at h
              have L94 : ∀ (x1 : Int32) (x2 : Int32) (S : zT) (H : Heap) (locs : List Loc) (ls : Array Slot), va_P (dC, dI) vwCl (zWd cI cW q S) H → va_S (zA cW q) s.heap H locs → lv_has ls 3 [(0, .ref (q 101)), (1, .int x1), (2, .int x2)] → (fX8_whyNot_94 (zfix (fun _ _ _ => none) (fX8_whyNot_43 (zfix (fun _ _ => none) fX8_whyNot_31 n31)) n43)) x1 x2 S = some o → W p l e rmX8_whyNot s m args below meth c H locs 0 0 Q (F0 m 94 ls []) := by
                intro x1 x2 S H locs ls hP hS hl h
                unfold fX8_whyNot_94 at h
                refine lv_iinc (v := (x2 + 1)) (lv' := [(2, .int (x2 + 1)), (0, .ref (q 101)), (1, .int x1)]) hx hb dX8_whyNot_94 hl (k := 2) rfl rfl (by decide) rfl (fun ls hl => ?_)
                refine lv_goto (tgt := 43) hx hb dX8_whyNot_97 (by decide) ?_
                exact ih43 x1 (x2 + 1) _ _ _ ls hP hS (lv_sub hl [1, 2, 0] rfl) h
              refine lv_iload_n hx hb dX8_whyNot_43 rfl (lv_at hl 2 rfl) ?_
              refine lv_aload_n hx hb dX8_whyNot_44 rfl (lv_at hl 0 rfl) ?_
              refine z_get hx hb hU uU_X8 hown hK hP (p_101 hW) rfl rfl 1 (by decide) (hU _ uF_X8_7) rfl dX8_whyNot_45 ?_
              refine lv_bipush (v := 6) hx hb dX8_whyNot_48 rfl ?_
              refine z_ialdC (j := 6) hx hb hK hP (pA_102 hW) dX8_whyNot_50 rfl (by decide) ?_
              refine z_icmp_ge (tgt := 100) hx hb dX8_whyNot_51 (by decide) h (fun h => ?_) (fun h => ?_)
              · refine lv_iinc (v := (x1 + 1)) (lv' := [(1, .int (x1 + 1)), (0, .ref (q 101)), (2, .int x2)]) hx hb dX8_whyNot_100 hl (k := 1) rfl rfl (by decide) rfl (fun ls hl => ?_)
                refine lv_goto (tgt := 31) hx hb dX8_whyNot_103 (by decide) ?_
                exact ih31 (x1 + 1) _ _ _ ls hP hS (lv_sub hl [1, 0] rfl) h
              · refine lv_aload_n hx hb dX8_whyNot_54 rfl (lv_at hl 0 rfl) ?_
                refine lv_iload_n hx hb dX8_whyNot_55 rfl (lv_at hl 1 rfl) ?_
                refine lv_iload_n hx hb dX8_whyNot_56 rfl (lv_at hl 2 rfl) ?_
                refine z_callV_i hx hb hml hown hU hK hN hP hS 2 (p_101 hW) rfl rfl (zU_V uL_X8_91 uI_X8_isDown uS_X8_isDown uN_X8 uC_X8_isDown) yd_X8_isDown ⟨rfl, rfl⟩ ⟨Nat.le_of_ble_eq_true rfl, Nat.le_of_ble_eq_true rfl⟩ (As := [.int x1, .int x2]) (fun o h9 => ctX8_isDown hq hW h9) rfl hl.1 rfl (Nat.le_of_ble_eq_true rfl) dX8_whyNot_57 ⟨Nat.zero_le _, Nat.zero_le _⟩ h (fun r_2 S_1 H locs hP hS h => ?_)
                refine z_if_eq (tgt := 94) hx hb dX8_whyNot_60 (by decide) h (fun h => ?_) (fun h => ?_)
                · exact L94 x1 x2 _ _ _ ls hP hS (lv_sub hl [0, 1, 2] rfl) h
                · refine lv_aload_n hx hb dX8_whyNot_63 rfl (lv_at hl 0 rfl) ?_
                  refine z_get hx hb hU uU_X8 hown hK hP (p_101 hW) rfl rfl 1 (by decide) (hU _ uF_X8_7) rfl dX8_whyNot_64 ?_
                  refine lv_iconst (v := 2) hx hb dX8_whyNot_67 rfl ?_
                  refine z_ialdC (j := 2) hx hb hK hP (pA_102 hW) dX8_whyNot_68 rfl (by decide) ?_
                  refine lv_aload_n hx hb dX8_whyNot_69 rfl (lv_at hl 0 rfl) ?_
                  refine lv_iload_n hx hb dX8_whyNot_70 rfl (lv_at hl 1 rfl) ?_
                  refine lv_iload_n hx hb dX8_whyNot_71 rfl (lv_at hl 2 rfl) ?_
                  refine z_callV_i hx hb hml hown hU hK hN hP hS 2 (p_101 hW) rfl rfl (zU_V uL_X8_94 uI_X8_stance uS_X8_stance uN_X8 uC_X8_stance) yd_X8_stance ⟨rfl, rfl⟩ ⟨Nat.le_of_ble_eq_true rfl, Nat.le_of_ble_eq_true rfl⟩ (As := [.int x1, .int x2]) (fun o h9 => ctX8_stance hq hW h9) rfl hl.1 rfl (Nat.le_of_ble_eq_true rfl) dX8_whyNot_72 ⟨Nat.zero_le _, Nat.zero_le _⟩ h (fun r_4 S_3 H locs hP hS h => ?_)
                  refine lv_iconst (v := 1) hx hb dX8_whyNot_75 rfl ?_
                  refine lv_isub hx hb dX8_whyNot_76 ?_
                  refine lv_imul hx hb dX8_whyNot_77 ?_
                  refine lv_iconst (v := 2) hx hb dX8_whyNot_78 rfl ?_
                  refine lv_aload_n hx hb dX8_whyNot_79 rfl (lv_at hl 0 rfl) ?_
                  refine z_get hx hb hU uU_X8 hown hK hP (p_101 hW) rfl rfl 1 (by decide) (hU _ uF_X8_7) rfl dX8_whyNot_80 ?_
                  refine lv_iconst (v := 3) hx hb dX8_whyNot_83 rfl ?_
                  refine z_ialdC (j := 3) hx hb hK hP (pA_102 hW) dX8_whyNot_84 rfl (by decide) ?_
                  refine lv_imul hx hb dX8_whyNot_85 ?_
                  refine z_icmp_le (tgt := 94) hx hb dX8_whyNot_86 (by decide) h (fun h => ?_) (fun h => ?_)
                  · exact L94 x1 x2 _ _ _ ls hP hS (lv_sub hl [0, 1, 2] rfl) h
                  · refine lv_bipush (v := 100) hx hb dX8_whyNot_89 rfl ?_
                    refine lv_iload_n hx hb dX8_whyNot_91 rfl (lv_at hl 1 rfl) ?_
                    refine lv_iadd hx hb dX8_whyNot_92 ?_
                    exact z_iret hx hb hlocks hP hS hQ hr dX8_whyNot_93 h
          refine lv_iload_n hx hb dX8_whyNot_31 rfl (lv_at hl 1 rfl) ?_
          refine lv_aload_n hx hb dX8_whyNot_32 rfl (lv_at hl 0 rfl) ?_
          refine z_get hx hb hU uU_X8 hown hK hP (p_101 hW) rfl rfl 1 (by decide) (hU _ uF_X8_7) rfl dX8_whyNot_33 ?_
          refine lv_iconst (v := 0) hx hb dX8_whyNot_36 rfl ?_
          refine z_ialdC (j := 0) hx hb hK hP (pA_102 hW) dX8_whyNot_37 rfl (by decide) ?_
          refine z_icmp_ge (tgt := 106) hx hb dX8_whyNot_38 (by decide) h (fun h => ?_) (fun h => ?_)
          · refine lv_iconst (v := (-1)) hx hb dX8_whyNot_106 rfl ?_
            exact z_iret hx hb hlocks hP hS hQ hr dX8_whyNot_107 h
          · refine lv_iconst (v := 0) hx hb dX8_whyNot_41 rfl ?_
            refine lv_istore_n (lv' := [(2, .int 0), (0, .ref (q 101)), (1, .int x1)]) hx hb dX8_whyNot_42 rfl hl (by decide) rfl (fun ls hl => ?_)
            exact L43 zF x1 0 _ _ _ ls hP hS (lv_sub hl [1, 2, 0] rfl) h
      refine lv_iload_n hx hb dX8_whyNot_2 rfl (lv_at hl 1 rfl) ?_
      refine lv_aload_n hx hb dX8_whyNot_3 rfl (lv_at hl 0 rfl) ?_
      refine z_get hx hb hU uU_X8 hown hK hP (p_101 hW) rfl rfl 1 (by decide) (hU _ uF_X8_7) rfl dX8_whyNot_4 ?_
      refine lv_bipush (v := 6) hx hb dX8_whyNot_7 rfl ?_
      refine z_ialdC (j := 6) hx hb hK hP (pA_102 hW) dX8_whyNot_9 rfl (by decide) ?_
      refine z_icmp_ge (tgt := 29) hx hb dX8_whyNot_10 (by decide) h (fun h => ?_) (fun h => ?_)
      · refine lv_iconst (v := 0) hx hb dX8_whyNot_29 rfl ?_
        refine lv_istore_n (lv' := [(1, .int 0), (0, .ref (q 101))]) hx hb dX8_whyNot_30 rfl hl (by decide) rfl (fun ls hl => ?_)
        exact L31 zF 0 _ _ _ ls hP hS (lv_sub hl [1, 0] rfl) h
      · refine lv_aload_n hx hb dX8_whyNot_13 rfl (lv_at hl 0 rfl) ?_
        refine lv_iload_n hx hb dX8_whyNot_14 rfl (lv_at hl 1 rfl) ?_
        refine z_callV_i hx hb hml hown hU hK hN hP hS 1 (p_101 hW) rfl rfl (zU_V uL_X8_140 uI_X8_standsAt uS_X8_standsAt uN_X8 uC_X8_standsAt) yd_X8_standsAt ⟨rfl, rfl⟩ ⟨Nat.le_of_ble_eq_true rfl, Nat.le_of_ble_eq_true rfl⟩ (As := [.int x1]) (fun o h9 => ctX8_standsAt hq hW h9) rfl hl.1 rfl (Nat.le_of_ble_eq_true rfl) dX8_whyNot_15 ⟨Nat.zero_le _, Nat.zero_le _⟩ h (fun r_6 S_5 H locs hP hS h => ?_)
        refine z_if_ne (tgt := 23) hx hb dX8_whyNot_18 (by decide) h (fun h => ?_) (fun h => ?_)
        · refine lv_iinc (v := (x1 + 1)) (lv' := [(1, .int (x1 + 1)), (0, .ref (q 101))]) hx hb dX8_whyNot_23 hl (k := 1) rfl rfl (by decide) rfl (fun ls hl => ?_)
          refine lv_goto (tgt := 2) hx hb dX8_whyNot_26 (by decide) ?_
          exact ih2 (x1 + 1) _ _ _ ls hP hS (lv_sub hl [1, 0] rfl) h
        · refine lv_iload_n hx hb dX8_whyNot_21 rfl (lv_at hl 1 rfl) ?_
          exact z_iret hx hb hlocks hP hS hQ hr dX8_whyNot_22 h
  refine lv_iconst (v := 0) hx hb dX8_whyNot_0 rfl ?_
  refine lv_istore_n (lv' := [(1, .int 0), (0, .ref (q 101))]) hx hb dX8_whyNot_1 rfl hl (by decide) rfl (fun ls hl => ?_)
  exact L2 zF 0 _ _ _ ls hP hS (lv_sub hl [1, 0] rfl) h

def fX8_walks (S : zT) : Option (Int32 × zT) :=
  zlet (zsi S 101 0 0) fun S_1 =>
  zbv (fX8_begins S_1) fun S_2 =>
  zbi (fX8_whyNot S_2) fun r_4 S_3 =>
  (if r_4 = (-1) then some (1, S_3) else some (0, S_3))
abbrev rmX8_walks : Room := { frames := 7, cells := 0, slots := 0, locals := 157 }
theorem yd_X8_walks : yX8_walks.cls = RX8 ∧ yX8_walks.cls ≠ "java/lang/invoke/MethodHandle" ∧ yX8_walks.cls ≠ "java/lang/invoke/VarHandle" ∧ (parseMethodDescriptor yX8_walks.desc).map (fun d => d.parameters.length) = some 0 := by decide +kernel
set_option maxRecDepth 100000 in
set_option maxHeartbeats 4000000 in
theorem ctX8_walks {l : Launch} {dC : Nat → ClassId} {dI : Nat → Nat → Nat} {cI : ClassId × ClassId} {cW : List zSh} {q : Nat → Nat} (hq : zI cW q) (hW : zIs cI cW) {S : zT} {o : Int32 × zT} (h : fX8_walks S = some o) : zCi l dC dI cI cW q yX8_walks (Cond.code yX8_walks cX8_walks 1 (some .boolean) :: zU) rmX8_walks [.ref (q 101)] S o := by
  refine zMet_i (lv := [(0, .ref (q 101))]) (by decide) (Nat.le_of_ble_eq_true rfl) rfl ?_
  intro p e s m args below meth c Q hx hb hml hr hU hown hlocks hK hN hP hS ls hl hQ
  replace hown : s.vm.findClass RX8 = some m.cls := hown
  unfold fX8_walks at h
  refine lv_aload_n hx hb dX8_walks_0 rfl (lv_at hl 0 rfl) ?_
  refine lv_iconst (v := 0) hx hb dX8_walks_1 rfl ?_
  refine z_puti hx hb hU uU_X8 tyX8 tyX8_ok nmX8 hown hq hK hP hS (p_101 hW) rfl rfl 0 (by decide) (hU _ uF_X8_34) rfl rfl rfl (Nat.le_of_ble_eq_true rfl) rfl dX8_walks_2 h (fun S_1 H locs hP hS h => ?_)
  refine lv_aload_n hx hb dX8_walks_5 rfl (lv_at hl 0 rfl) ?_
  refine z_callV_v hx hb hml hown hU hK hN hP hS 0 (p_101 hW) rfl rfl (zU_V uL_X8_49 uI_X8_begins uS_X8_begins uN_X8 uC_X8_begins) yd_X8_begins ⟨rfl, rfl⟩ ⟨Nat.le_of_ble_eq_true rfl, Nat.le_of_ble_eq_true rfl⟩ (As := []) (fun o h9 => ctX8_begins hq hW h9) rfl hl.1 rfl (Nat.le_of_ble_eq_true rfl) dX8_walks_6 ⟨Nat.zero_le _, Nat.zero_le _⟩ h (fun S_2 H locs hP hS h => ?_)
  refine lv_aload_n hx hb dX8_walks_9 rfl (lv_at hl 0 rfl) ?_
  refine z_callV_i hx hb hml hown hU hK hN hP hS 0 (p_101 hW) rfl rfl (zU_V uL_X8_143 uI_X8_whyNot uS_X8_whyNot uN_X8 uC_X8_whyNot) yd_X8_whyNot ⟨rfl, rfl⟩ ⟨Nat.le_of_ble_eq_true rfl, Nat.le_of_ble_eq_true rfl⟩ (As := []) (fun o h9 => ctX8_whyNot hq hW h9) rfl hl.1 rfl (Nat.le_of_ble_eq_true rfl) dX8_walks_10 ⟨Nat.zero_le _, Nat.zero_le _⟩ h (fun r_4 S_3 H locs hP hS h => ?_)
  refine lv_iconst (v := (-1)) hx hb dX8_walks_13 rfl ?_
  refine z_icmp_ne (tgt := 21) hx hb dX8_walks_14 (by decide) h (fun h => ?_) (fun h => ?_)
  · refine lv_iconst (v := 0) hx hb dX8_walks_21 rfl ?_
    exact z_zretC hx hb hlocks hP hS hQ hr dX8_walks_22 (Or.inl rfl) h
  · refine lv_iconst (v := 1) hx hb dX8_walks_17 rfl ?_
    refine lv_goto (tgt := 22) hx hb dX8_walks_18 (by decide) ?_
    exact z_zretC hx hb hlocks hP hS hQ hr dX8_walks_22 (Or.inr rfl) h

def fX8_why (S : zT) : Option (Int32 × zT) :=
  zlet (zsi S 101 0 0) fun S_1 =>
  zbv (fX8_begins S_1) fun S_2 =>
  zbi (fX8_whyNot S_2) fun r_4 S_3 =>
  some (r_4, S_3)
abbrev rmX8_why : Room := { frames := 7, cells := 0, slots := 0, locals := 157 }
theorem yd_X8_why : yX8_why.cls = RX8 ∧ yX8_why.cls ≠ "java/lang/invoke/MethodHandle" ∧ yX8_why.cls ≠ "java/lang/invoke/VarHandle" ∧ (parseMethodDescriptor yX8_why.desc).map (fun d => d.parameters.length) = some 0 := by decide +kernel
set_option maxRecDepth 100000 in
set_option maxHeartbeats 4000000 in
theorem ctX8_why {l : Launch} {dC : Nat → ClassId} {dI : Nat → Nat → Nat} {cI : ClassId × ClassId} {cW : List zSh} {q : Nat → Nat} (hq : zI cW q) (hW : zIs cI cW) {S : zT} {o : Int32 × zT} (h : fX8_why S = some o) : zCi l dC dI cI cW q yX8_why (Cond.code yX8_why cX8_why 1 (some .int) :: zU) rmX8_why [.ref (q 101)] S o := by
  refine zMet_i (lv := [(0, .ref (q 101))]) (by decide) (Nat.le_of_ble_eq_true rfl) rfl ?_
  intro p e s m args below meth c Q hx hb hml hr hU hown hlocks hK hN hP hS ls hl hQ
  replace hown : s.vm.findClass RX8 = some m.cls := hown
  unfold fX8_why at h
  refine lv_aload_n hx hb dX8_why_0 rfl (lv_at hl 0 rfl) ?_
  refine lv_iconst (v := 0) hx hb dX8_why_1 rfl ?_
  refine z_puti hx hb hU uU_X8 tyX8 tyX8_ok nmX8 hown hq hK hP hS (p_101 hW) rfl rfl 0 (by decide) (hU _ uF_X8_34) rfl rfl rfl (Nat.le_of_ble_eq_true rfl) rfl dX8_why_2 h (fun S_1 H locs hP hS h => ?_)
  refine lv_aload_n hx hb dX8_why_5 rfl (lv_at hl 0 rfl) ?_
  refine z_callV_v hx hb hml hown hU hK hN hP hS 0 (p_101 hW) rfl rfl (zU_V uL_X8_49 uI_X8_begins uS_X8_begins uN_X8 uC_X8_begins) yd_X8_begins ⟨rfl, rfl⟩ ⟨Nat.le_of_ble_eq_true rfl, Nat.le_of_ble_eq_true rfl⟩ (As := []) (fun o h9 => ctX8_begins hq hW h9) rfl hl.1 rfl (Nat.le_of_ble_eq_true rfl) dX8_why_6 ⟨Nat.zero_le _, Nat.zero_le _⟩ h (fun S_2 H locs hP hS h => ?_)
  refine lv_aload_n hx hb dX8_why_9 rfl (lv_at hl 0 rfl) ?_
  refine z_callV_i hx hb hml hown hU hK hN hP hS 0 (p_101 hW) rfl rfl (zU_V uL_X8_143 uI_X8_whyNot uS_X8_whyNot uN_X8 uC_X8_whyNot) yd_X8_whyNot ⟨rfl, rfl⟩ ⟨Nat.le_of_ble_eq_true rfl, Nat.le_of_ble_eq_true rfl⟩ (As := []) (fun o h9 => ctX8_whyNot hq hW h9) rfl hl.1 rfl (Nat.le_of_ble_eq_true rfl) dX8_why_10 ⟨Nat.zero_le _, Nat.zero_le _⟩ h (fun r_4 S_3 H locs hP hS h => ?_)
  exact z_iret hx hb hlocks hP hS hQ hr dX8_why_13 h

def fX8_common_17 (rec : Int64 → Int64 → zT → Option (Int64 × zT)) (x5 : Int64) (x7 : Int64) (S : zT) : Option (Int64 × zT) :=
  (if (lg_cmp x7 0) ≤ 0 then some (x5, S) else if ¬ x7 = 0 then rec x7 (x5 - x5 / x7 * x7) S else none)
def fX8_common_12 (x3 : Int64) (t0 : Int64) (S : zT) : Option (Int64 × zT) :=
  (zfix (fun _ _ _ => none) fX8_common_17 zF) t0 x3 S
def fX8_common (a1 : Int64) (a3 : Int64) (S : zT) : Option (Int64 × zT) :=
  (if 0 ≤ (lg_cmp a1 0) then fX8_common_12 a3 a1 S else fX8_common_12 a3 (-a1) S)
abbrev rmX8_common : Room := { frames := 0, cells := 0, slots := 0, locals := 0 }
theorem yd_X8_common : yX8_common.cls = RX8 ∧ yX8_common.cls ≠ "java/lang/invoke/MethodHandle" ∧ yX8_common.cls ≠ "java/lang/invoke/VarHandle" ∧ (parseMethodDescriptor yX8_common.desc).map (fun d => d.parameters.length) = some 2 := by decide +kernel
set_option maxRecDepth 100000 in
set_option maxHeartbeats 4000000 in
theorem ctX8_common {l : Launch} {dC : Nat → ClassId} {dI : Nat → Nat → Nat} {cI : ClassId × ClassId} {cW : List zSh} {q : Nat → Nat} (hq : zI cW q) (hW : zIs cI cW) {a1 : Int64} {a3 : Int64} {S : zT} {o : Int64 × zT} (h : fX8_common a1 a3 S = some o) : zCl l dC dI cI cW q yX8_common (Cond.code yX8_common cX8_common 11 (some .long) :: zU) rmX8_common [.ref (q 101), .long a1, .long a3] S o := by
  refine zMet_l (lv := [(0, .ref (q 101)), (1, .long a1), (3, .long a3)]) (by decide) (Nat.le_of_ble_eq_true rfl) rfl ?_
  intro p e s m args below meth c Q hx hb hml hr hU hown hlocks hK hN hP hS ls hl hQ
  replace hown : s.vm.findClass RX8 = some m.cls := hown
  unfold fX8_common at h
  have L12 : ∀ (x3 : Int64) (t0 : Int64) (S : zT) (H : Heap) (locs : List Loc) (ls : Array Slot), va_P (dC, dI) vwCl (zWd cI cW q S) H → va_S (zA cW q) s.heap H locs → lv_has ls 11 [(3, .long x3)] → fX8_common_12 x3 t0 S = some o → W p l e rmX8_common s m args below meth c H locs 0 0 Q (F0 m 12 ls [.long t0]) := by
    intro x3 t0 S H locs ls hP hS hl h
    unfold fX8_common_12 at h
    have L17 : ∀ (n17 : Nat) (x5 : Int64) (x7 : Int64) (S : zT) (H : Heap) (locs : List Loc) (ls : Array Slot), va_P (dC, dI) vwCl (zWd cI cW q S) H → va_S (zA cW q) s.heap H locs → lv_has ls 11 [(5, .long x5), (7, .long x7)] → (zfix (fun _ _ _ => none) fX8_common_17 n17) x5 x7 S = some o → W p l e rmX8_common s m args below meth c H locs 0 0 Q (F0 m 17 ls []) := by
      intro n17
      induction n17 with
      | zero => intro x5 x7 S H locs ls hP hS hl h; exact zno (show (none : Option (Int64 × zT)) = some o from h)
      | succ n17 ih17 =>
        intro x5 x7 S H locs ls hP hS hl h
        replace h : fX8_common_17 (zfix (fun _ _ _ => none) fX8_common_17 n17) x5 x7 S = some o := h
        unfold fX8_common_17 at h
        refine lv_lload hx hb dX8_common_17 (lv_at hl 1 rfl) ?_
        refine lv_lconst (v := 0) hx hb dX8_common_19 rfl ?_
        refine W.lcmp hx hb dX8_common_20 ?_
        refine z_if_le (tgt := 42) hx hb dX8_common_21 (by decide) h (fun h => ?_) (fun h => ?_)
        · refine lv_lload hx hb dX8_common_42 (lv_at hl 0 rfl) ?_
          exact z_lret hx hb hlocks hP hS hQ hr dX8_common_44 h
        · refine lv_lload hx hb dX8_common_24 (lv_at hl 0 rfl) ?_
          refine lv_lload hx hb dX8_common_26 (lv_at hl 1 rfl) ?_
          refine z_lrem hx hb dX8_common_28 h (fun h => ?_)
          refine lv_lstore (lv' := [(9, .long (x5 - x5 / x7 * x7)), (5, .long x5), (7, .long x7)]) hx hb dX8_common_29 hl (by decide) rfl (fun ls hl => ?_)
          refine lv_lload hx hb dX8_common_31 (lv_at hl 2 rfl) ?_
          refine lv_lstore (lv' := [(5, .long x7), (9, .long (x5 - x5 / x7 * x7)), (7, .long x7)]) hx hb dX8_common_33 hl (by decide) rfl (fun ls hl => ?_)
          refine lv_lload hx hb dX8_common_35 (lv_at hl 1 rfl) ?_
          refine lv_lstore (lv' := [(7, .long (x5 - x5 / x7 * x7)), (5, .long x7), (9, .long (x5 - x5 / x7 * x7))]) hx hb dX8_common_37 hl (by decide) rfl (fun ls hl => ?_)
          refine lv_goto (tgt := 17) hx hb dX8_common_39 (by decide) ?_
          exact ih17 x7 (x5 - x5 / x7 * x7) _ _ _ ls hP hS (lv_sub hl [1, 0] rfl) h
    refine lv_lstore (lv' := [(5, .long t0), (3, .long x3)]) hx hb dX8_common_12 hl (by decide) rfl (fun ls hl => ?_)
    refine lv_lload_n hx hb dX8_common_14 rfl (lv_at hl 1 rfl) ?_
    refine lv_lstore (lv' := [(7, .long x3), (5, .long t0), (3, .long x3)]) hx hb dX8_common_15 hl (by decide) rfl (fun ls hl => ?_)
    exact L17 zF t0 x3 _ _ _ ls hP hS (lv_sub hl [1, 0] rfl) h
  refine lv_lload_n hx hb dX8_common_0 rfl (lv_at hl 1 rfl) ?_
  refine lv_lconst (v := 0) hx hb dX8_common_1 rfl ?_
  refine W.lcmp hx hb dX8_common_2 ?_
  refine z_if_ge (tgt := 11) hx hb dX8_common_3 (by decide) h (fun h => ?_) (fun h => ?_)
  · refine lv_lload_n hx hb dX8_common_11 rfl (lv_at hl 1 rfl) ?_
    exact L12 a3 a1 _ _ _ ls hP hS (lv_sub hl [2] rfl) h
  · refine lv_lload_n hx hb dX8_common_6 rfl (lv_at hl 1 rfl) ?_
    refine lv_lneg hx hb dX8_common_7 ?_
    refine lv_goto (tgt := 12) hx hb dX8_common_8 (by decide) ?_
    exact L12 a3 (-a1) _ _ _ ls hP hS (lv_sub hl [2] rfl) h

def fX8_share (a1 : Int64) (a3 : Int64) (S : zT) : Option zT :=
  zbl (fX8_common a1 a3 S) fun r_2 S_1 =>
  if ¬ r_2 = 0 then zlet (zsl S_1 101 13 (a1 / r_2)) fun S_3 =>
  if ¬ r_2 = 0 then zlet (zsl S_3 101 14 (a3 / r_2)) fun S_4 =>
  some S_4 else none else none
abbrev rmX8_share : Room := { frames := 1, cells := 0, slots := 0, locals := 30 }
theorem yd_X8_share : yX8_share.cls = RX8 ∧ yX8_share.cls ≠ "java/lang/invoke/MethodHandle" ∧ yX8_share.cls ≠ "java/lang/invoke/VarHandle" ∧ (parseMethodDescriptor yX8_share.desc).map (fun d => d.parameters.length) = some 2 := by decide +kernel
set_option maxRecDepth 100000 in
set_option maxHeartbeats 4000000 in
theorem ctX8_share {l : Launch} {dC : Nat → ClassId} {dI : Nat → Nat → Nat} {cI : ClassId × ClassId} {cW : List zSh} {q : Nat → Nat} (hq : zI cW q) (hW : zIs cI cW) {a1 : Int64} {a3 : Int64} {S : zT} {o : zT} (h : fX8_share a1 a3 S = some o) : zCv l dC dI cI cW q yX8_share (Cond.code yX8_share cX8_share 7 none :: zU) rmX8_share [.ref (q 101), .long a1, .long a3] S o := by
  refine zMet_v (lv := [(0, .ref (q 101)), (1, .long a1), (3, .long a3)]) (by decide) (Nat.le_of_ble_eq_true rfl) rfl ?_
  intro p e s m args below meth c Q hx hb hml hr hU hown hlocks hK hN hP hS ls hl hQ
  replace hown : s.vm.findClass RX8 = some m.cls := hown
  unfold fX8_share at h
  refine lv_aload_n hx hb dX8_share_0 rfl (lv_at hl 0 rfl) ?_
  refine lv_lload_n hx hb dX8_share_1 rfl (lv_at hl 1 rfl) ?_
  refine lv_lload_n hx hb dX8_share_2 rfl (lv_at hl 2 rfl) ?_
  refine z_callV_l hx hb hml hown hU hK hN hP hS 2 (p_101 hW) rfl rfl (zU_V uL_X8_147 uI_X8_common uS_X8_common uN_X8 uC_X8_common) yd_X8_common ⟨rfl, rfl⟩ ⟨Nat.le_of_ble_eq_true rfl, Nat.le_of_ble_eq_true rfl⟩ (As := [.long a1, .long a3]) (fun o h9 => ctX8_common hq hW h9) rfl hl.1 rfl (Nat.le_of_ble_eq_true rfl) dX8_share_3 ⟨Nat.zero_le _, Nat.zero_le _⟩ h (fun r_2 S_1 H locs hP hS h => ?_)
  refine lv_lstore (lv' := [(5, .long r_2), (0, .ref (q 101)), (1, .long a1), (3, .long a3)]) hx hb dX8_share_6 hl (by decide) rfl (fun ls hl => ?_)
  refine lv_aload_n hx hb dX8_share_8 rfl (lv_at hl 1 rfl) ?_
  refine lv_lload_n hx hb dX8_share_9 rfl (lv_at hl 2 rfl) ?_
  refine lv_lload hx hb dX8_share_10 (lv_at hl 0 rfl) ?_
  refine z_ldiv hx hb dX8_share_12 h (fun h => ?_)
  refine z_putl hx hb hU uU_X8 tyX8 tyX8_ok nmX8 hown hq hK hP hS (p_101 hW) rfl rfl 13 (by decide) (hU _ uF_X8_151) rfl rfl rfl (Nat.le_of_ble_eq_true rfl) rfl dX8_share_13 h (fun S_3 H locs hP hS h => ?_)
  refine lv_aload_n hx hb dX8_share_16 rfl (lv_at hl 1 rfl) ?_
  refine lv_lload_n hx hb dX8_share_17 rfl (lv_at hl 3 rfl) ?_
  refine lv_lload hx hb dX8_share_18 (lv_at hl 0 rfl) ?_
  refine z_ldiv hx hb dX8_share_20 h (fun h => ?_)
  refine z_putl hx hb hU uU_X8 tyX8 tyX8_ok nmX8 hown hq hK hP hS (p_101 hW) rfl rfl 14 (by decide) (hU _ uF_X8_155) rfl rfl rfl (Nat.le_of_ble_eq_true rfl) rfl dX8_share_21 h (fun S_4 H locs hP hS h => ?_)
  exact z_vret hx hb hlocks hP hS hQ hr dX8_share_24 h

def fX8_marginAt (a1 : Int32) (S : zT) : Option (Int32 × zT) :=
  zbv (fX8_feetAt a1 S) fun S_1 =>
  zbv (fX8_spans (2 * (S_1.1 102 4)) S_1) fun S_2 =>
  (if (S_2.1 101 8) = 0 then some (0, S_2) else (if 0 < (lg_cmp ((((2 * ((S_2.1 102 5)).toInt64) * ((S_2.1 101 10)).toInt64) - ((S_2.1 101 9)).toInt64) * ((S_2.1 101 12)).toInt64) ((((S_2.1 101 11)).toInt64 - ((2 * ((S_2.1 102 5)).toInt64) * ((S_2.1 101 12)).toInt64)) * ((S_2.1 101 10)).toInt64)) then zbv (fX8_share (((S_2.1 101 11)).toInt64 - ((2 * ((S_2.1 102 5)).toInt64) * ((S_2.1 101 12)).toInt64)) (2 * ((S_2.1 101 12)).toInt64) S_2) fun S_3 =>
  some (1, S_3) else zbv (fX8_share (((2 * ((S_2.1 102 5)).toInt64) * ((S_2.1 101 10)).toInt64) - ((S_2.1 101 9)).toInt64) (2 * ((S_2.1 101 10)).toInt64) S_2) fun S_4 =>
  some (1, S_4)))
abbrev rmX8_marginAt : Room := { frames := 5, cells := 0, slots := 0, locals := 113 }
theorem yd_X8_marginAt : yX8_marginAt.cls = RX8 ∧ yX8_marginAt.cls ≠ "java/lang/invoke/MethodHandle" ∧ yX8_marginAt.cls ≠ "java/lang/invoke/VarHandle" ∧ (parseMethodDescriptor yX8_marginAt.desc).map (fun d => d.parameters.length) = some 1 := by decide +kernel
set_option maxRecDepth 100000 in
set_option maxHeartbeats 4000000 in
theorem ctX8_marginAt {l : Launch} {dC : Nat → ClassId} {dI : Nat → Nat → Nat} {cI : ClassId × ClassId} {cW : List zSh} {q : Nat → Nat} (hq : zI cW q) (hW : zIs cI cW) {a1 : Int32} {S : zT} {o : Int32 × zT} (h : fX8_marginAt a1 S = some o) : zCi l dC dI cI cW q yX8_marginAt (Cond.code yX8_marginAt cX8_marginAt 8 (some .boolean) :: zU) rmX8_marginAt [.ref (q 101), .int a1] S o := by
  refine zMet_i (lv := [(0, .ref (q 101)), (1, .int a1)]) (by decide) (Nat.le_of_ble_eq_true rfl) rfl ?_
  intro p e s m args below meth c Q hx hb hml hr hU hown hlocks hK hN hP hS ls hl hQ
  replace hown : s.vm.findClass RX8 = some m.cls := hown
  unfold fX8_marginAt at h
  refine lv_aload_n hx hb dX8_marginAt_0 rfl (lv_at hl 0 rfl) ?_
  refine lv_iload_n hx hb dX8_marginAt_1 rfl (lv_at hl 1 rfl) ?_
  refine z_callV_v hx hb hml hown hU hK hN hP hS 1 (p_101 hW) rfl rfl (zU_V uL_X8_130 uI_X8_feetAt uS_X8_feetAt uN_X8 uC_X8_feetAt) yd_X8_feetAt ⟨rfl, rfl⟩ ⟨Nat.le_of_ble_eq_true rfl, Nat.le_of_ble_eq_true rfl⟩ (As := [.int a1]) (fun o h9 => ctX8_feetAt hq hW h9) rfl hl.1 rfl (Nat.le_of_ble_eq_true rfl) dX8_marginAt_2 ⟨Nat.zero_le _, Nat.zero_le _⟩ h (fun S_1 H locs hP hS h => ?_)
  refine lv_aload_n hx hb dX8_marginAt_5 rfl (lv_at hl 0 rfl) ?_
  refine lv_iconst (v := 2) hx hb dX8_marginAt_6 rfl ?_
  refine lv_aload_n hx hb dX8_marginAt_7 rfl (lv_at hl 0 rfl) ?_
  refine z_get hx hb hU uU_X8 hown hK hP (p_101 hW) rfl rfl 1 (by decide) (hU _ uF_X8_7) rfl dX8_marginAt_8 ?_
  refine lv_iconst (v := 4) hx hb dX8_marginAt_11 rfl ?_
  refine z_ialdC (j := 4) hx hb hK hP (pA_102 hW) dX8_marginAt_12 rfl (by decide) ?_
  refine lv_imul hx hb dX8_marginAt_13 ?_
  refine z_callV_v hx hb hml hown hU hK hN hP hS 1 (p_101 hW) rfl rfl (zU_V uL_X8_134 uI_X8_spans uS_X8_spans uN_X8 uC_X8_spans) yd_X8_spans ⟨rfl, rfl⟩ ⟨Nat.le_of_ble_eq_true rfl, Nat.le_of_ble_eq_true rfl⟩ (As := [.int (2 * (S_1.1 102 4))]) (fun o h9 => ctX8_spans hq hW h9) rfl hl.1 rfl (Nat.le_of_ble_eq_true rfl) dX8_marginAt_14 ⟨Nat.zero_le _, Nat.zero_le _⟩ h (fun S_2 H locs hP hS h => ?_)
  refine lv_aload_n hx hb dX8_marginAt_17 rfl (lv_at hl 0 rfl) ?_
  refine z_get hx hb hU uU_X8 hown hK hP (p_101 hW) rfl rfl 8 (by decide) (hU _ uF_X8_103) rfl dX8_marginAt_18 ?_
  refine z_if_ne (tgt := 26) hx hb dX8_marginAt_21 (by decide) h (fun h => ?_) (fun h => ?_)
  · refine lv_ldc2 (v := 2) hx hb hown (hU _ uK_X8_158) dX8_marginAt_26 ?_
    refine lv_aload_n hx hb dX8_marginAt_29 rfl (lv_at hl 0 rfl) ?_
    refine z_get hx hb hU uU_X8 hown hK hP (p_101 hW) rfl rfl 1 (by decide) (hU _ uF_X8_7) rfl dX8_marginAt_30 ?_
    refine lv_iconst (v := 5) hx hb dX8_marginAt_33 rfl ?_
    refine z_ialdC (j := 5) hx hb hK hP (pA_102 hW) dX8_marginAt_34 rfl (by decide) ?_
    refine lv_i2l (v := ((S_2.1 102 5)).toInt64) hx hb dX8_marginAt_35 rfl ?_
    refine lv_lmul hx hb dX8_marginAt_36 ?_
    refine lv_lstore_n (lv' := [(2, .long (2 * ((S_2.1 102 5)).toInt64)), (0, .ref (q 101)), (1, .int a1)]) hx hb dX8_marginAt_37 rfl hl (by decide) rfl (fun ls hl => ?_)
    refine lv_lload_n hx hb dX8_marginAt_38 rfl (lv_at hl 0 rfl) ?_
    refine lv_aload_n hx hb dX8_marginAt_39 rfl (lv_at hl 1 rfl) ?_
    refine z_get hx hb hU uU_X8 hown hK hP (p_101 hW) rfl rfl 10 (by decide) (hU _ uF_X8_106) rfl dX8_marginAt_40 ?_
    refine lv_i2l (v := ((S_2.1 101 10)).toInt64) hx hb dX8_marginAt_43 rfl ?_
    refine lv_lmul hx hb dX8_marginAt_44 ?_
    refine lv_aload_n hx hb dX8_marginAt_45 rfl (lv_at hl 1 rfl) ?_
    refine z_get hx hb hU uU_X8 hown hK hP (p_101 hW) rfl rfl 9 (by decide) (hU _ uF_X8_109) rfl dX8_marginAt_46 ?_
    refine lv_i2l (v := ((S_2.1 101 9)).toInt64) hx hb dX8_marginAt_49 rfl ?_
    refine lv_lsub hx hb dX8_marginAt_50 ?_
    refine lv_lstore (lv' := [(4, .long (((2 * ((S_2.1 102 5)).toInt64) * ((S_2.1 101 10)).toInt64) - ((S_2.1 101 9)).toInt64)), (2, .long (2 * ((S_2.1 102 5)).toInt64)), (0, .ref (q 101)), (1, .int a1)]) hx hb dX8_marginAt_51 hl (by decide) rfl (fun ls hl => ?_)
    refine lv_aload_n hx hb dX8_marginAt_53 rfl (lv_at hl 2 rfl) ?_
    refine z_get hx hb hU uU_X8 hown hK hP (p_101 hW) rfl rfl 11 (by decide) (hU _ uF_X8_115) rfl dX8_marginAt_54 ?_
    refine lv_i2l (v := ((S_2.1 101 11)).toInt64) hx hb dX8_marginAt_57 rfl ?_
    refine lv_lload_n hx hb dX8_marginAt_58 rfl (lv_at hl 1 rfl) ?_
    refine lv_aload_n hx hb dX8_marginAt_59 rfl (lv_at hl 2 rfl) ?_
    refine z_get hx hb hU uU_X8 hown hK hP (p_101 hW) rfl rfl 12 (by decide) (hU _ uF_X8_112) rfl dX8_marginAt_60 ?_
    refine lv_i2l (v := ((S_2.1 101 12)).toInt64) hx hb dX8_marginAt_63 rfl ?_
    refine lv_lmul hx hb dX8_marginAt_64 ?_
    refine lv_lsub hx hb dX8_marginAt_65 ?_
    refine lv_lstore (lv' := [(6, .long (((S_2.1 101 11)).toInt64 - ((2 * ((S_2.1 102 5)).toInt64) * ((S_2.1 101 12)).toInt64))), (4, .long (((2 * ((S_2.1 102 5)).toInt64) * ((S_2.1 101 10)).toInt64) - ((S_2.1 101 9)).toInt64)), (2, .long (2 * ((S_2.1 102 5)).toInt64)), (0, .ref (q 101)), (1, .int a1)]) hx hb dX8_marginAt_66 hl (by decide) rfl (fun ls hl => ?_)
    refine lv_lload hx hb dX8_marginAt_68 (lv_at hl 1 rfl) ?_
    refine lv_aload_n hx hb dX8_marginAt_70 rfl (lv_at hl 3 rfl) ?_
    refine z_get hx hb hU uU_X8 hown hK hP (p_101 hW) rfl rfl 12 (by decide) (hU _ uF_X8_112) rfl dX8_marginAt_71 ?_
    refine lv_i2l (v := ((S_2.1 101 12)).toInt64) hx hb dX8_marginAt_74 rfl ?_
    refine lv_lmul hx hb dX8_marginAt_75 ?_
    refine lv_lload hx hb dX8_marginAt_76 (lv_at hl 0 rfl) ?_
    refine lv_aload_n hx hb dX8_marginAt_78 rfl (lv_at hl 3 rfl) ?_
    refine z_get hx hb hU uU_X8 hown hK hP (p_101 hW) rfl rfl 10 (by decide) (hU _ uF_X8_106) rfl dX8_marginAt_79 ?_
    refine lv_i2l (v := ((S_2.1 101 10)).toInt64) hx hb dX8_marginAt_82 rfl ?_
    refine lv_lmul hx hb dX8_marginAt_83 ?_
    refine W.lcmp hx hb dX8_marginAt_84 ?_
    refine z_if_gt (tgt := 106) hx hb dX8_marginAt_85 (by decide) h (fun h => ?_) (fun h => ?_)
    · refine lv_aload_n hx hb dX8_marginAt_106 rfl (lv_at hl 3 rfl) ?_
      refine lv_lload hx hb dX8_marginAt_107 (lv_at hl 0 rfl) ?_
      refine lv_ldc2 (v := 2) hx hb hown (hU _ uK_X8_158) dX8_marginAt_109 ?_
      refine lv_aload_n hx hb dX8_marginAt_112 rfl (lv_at hl 3 rfl) ?_
      refine z_get hx hb hU uU_X8 hown hK hP (p_101 hW) rfl rfl 12 (by decide) (hU _ uF_X8_112) rfl dX8_marginAt_113 ?_
      refine lv_i2l (v := ((S_2.1 101 12)).toInt64) hx hb dX8_marginAt_116 rfl ?_
      refine lv_lmul hx hb dX8_marginAt_117 ?_
      refine z_callV_v hx hb hml hown hU hK hN hP hS 2 (p_101 hW) rfl rfl (zU_V uL_X8_160 uI_X8_share uS_X8_share uN_X8 uC_X8_share) yd_X8_share ⟨rfl, rfl⟩ ⟨Nat.le_of_ble_eq_true rfl, Nat.le_of_ble_eq_true rfl⟩ (As := [.long (((S_2.1 101 11)).toInt64 - ((2 * ((S_2.1 102 5)).toInt64) * ((S_2.1 101 12)).toInt64)), .long (2 * ((S_2.1 101 12)).toInt64)]) (fun o h9 => ctX8_share hq hW h9) rfl hl.1 rfl (Nat.le_of_ble_eq_true rfl) dX8_marginAt_118 ⟨Nat.zero_le _, Nat.zero_le _⟩ h (fun S_3 H locs hP hS h => ?_)
      refine lv_iconst (v := 1) hx hb dX8_marginAt_121 rfl ?_
      exact z_zretC hx hb hlocks hP hS hQ hr dX8_marginAt_122 (Or.inr rfl) h
    · refine lv_aload_n hx hb dX8_marginAt_88 rfl (lv_at hl 3 rfl) ?_
      refine lv_lload hx hb dX8_marginAt_89 (lv_at hl 1 rfl) ?_
      refine lv_ldc2 (v := 2) hx hb hown (hU _ uK_X8_158) dX8_marginAt_91 ?_
      refine lv_aload_n hx hb dX8_marginAt_94 rfl (lv_at hl 3 rfl) ?_
      refine z_get hx hb hU uU_X8 hown hK hP (p_101 hW) rfl rfl 10 (by decide) (hU _ uF_X8_106) rfl dX8_marginAt_95 ?_
      refine lv_i2l (v := ((S_2.1 101 10)).toInt64) hx hb dX8_marginAt_98 rfl ?_
      refine lv_lmul hx hb dX8_marginAt_99 ?_
      refine z_callV_v hx hb hml hown hU hK hN hP hS 2 (p_101 hW) rfl rfl (zU_V uL_X8_160 uI_X8_share uS_X8_share uN_X8 uC_X8_share) yd_X8_share ⟨rfl, rfl⟩ ⟨Nat.le_of_ble_eq_true rfl, Nat.le_of_ble_eq_true rfl⟩ (As := [.long (((2 * ((S_2.1 102 5)).toInt64) * ((S_2.1 101 10)).toInt64) - ((S_2.1 101 9)).toInt64), .long (2 * ((S_2.1 101 10)).toInt64)]) (fun o h9 => ctX8_share hq hW h9) rfl hl.1 rfl (Nat.le_of_ble_eq_true rfl) dX8_marginAt_100 ⟨Nat.zero_le _, Nat.zero_le _⟩ h (fun S_4 H locs hP hS h => ?_)
      refine lv_goto (tgt := 121) hx hb dX8_marginAt_103 (by decide) ?_
      refine lv_iconst (v := 1) hx hb dX8_marginAt_121 rfl ?_
      exact z_zretC hx hb hlocks hP hS hQ hr dX8_marginAt_122 (Or.inr rfl) h
  · refine lv_iconst (v := 0) hx hb dX8_marginAt_24 rfl ?_
    exact z_zretC hx hb hlocks hP hS hQ hr dX8_marginAt_25 (Or.inl rfl) h

def fX8_margin (a1 : Int32) (a2 : Int32) (S : zT) : Option (Int64 × zT) :=
  zlet (zsi S 101 0 0) fun S_1 =>
  zbv (fX8_begins S_1) fun S_2 =>
  zbi (fX8_isTick a1 S_2) fun r_4 S_3 =>
  (if r_4 = 0 then some ((-10000), S_3) else (if a2 < 0 then some ((-10000), S_3) else (if 1 < a2 then some ((-10000), S_3) else zbi (fX8_marginAt a1 S_3) fun r_6 S_5 =>
  (if r_6 = 0 then some ((-10000), S_5) else (if a2 = 0 then some ((S_5.2 101 13), S_5) else some ((S_5.2 101 14), S_5))))))
abbrev rmX8_margin : Room := { frames := 6, cells := 0, slots := 0, locals := 140 }
theorem yd_X8_margin : yX8_margin.cls = RX8 ∧ yX8_margin.cls ≠ "java/lang/invoke/MethodHandle" ∧ yX8_margin.cls ≠ "java/lang/invoke/VarHandle" ∧ (parseMethodDescriptor yX8_margin.desc).map (fun d => d.parameters.length) = some 2 := by decide +kernel
set_option maxRecDepth 100000 in
set_option maxHeartbeats 4000000 in
theorem ctX8_margin {l : Launch} {dC : Nat → ClassId} {dI : Nat → Nat → Nat} {cI : ClassId × ClassId} {cW : List zSh} {q : Nat → Nat} (hq : zI cW q) (hW : zIs cI cW) {a1 : Int32} {a2 : Int32} {S : zT} {o : Int64 × zT} (h : fX8_margin a1 a2 S = some o) : zCl l dC dI cI cW q yX8_margin (Cond.code yX8_margin cX8_margin 3 (some .long) :: zU) rmX8_margin [.ref (q 101), .int a1, .int a2] S o := by
  refine zMet_l (lv := [(0, .ref (q 101)), (1, .int a1), (2, .int a2)]) (by decide) (Nat.le_of_ble_eq_true rfl) rfl ?_
  intro p e s m args below meth c Q hx hb hml hr hU hown hlocks hK hN hP hS ls hl hQ
  replace hown : s.vm.findClass RX8 = some m.cls := hown
  unfold fX8_margin at h
  refine lv_aload_n hx hb dX8_margin_0 rfl (lv_at hl 0 rfl) ?_
  refine lv_iconst (v := 0) hx hb dX8_margin_1 rfl ?_
  refine z_puti hx hb hU uU_X8 tyX8 tyX8_ok nmX8 hown hq hK hP hS (p_101 hW) rfl rfl 0 (by decide) (hU _ uF_X8_34) rfl rfl rfl (Nat.le_of_ble_eq_true rfl) rfl dX8_margin_2 h (fun S_1 H locs hP hS h => ?_)
  refine lv_aload_n hx hb dX8_margin_5 rfl (lv_at hl 0 rfl) ?_
  refine z_callV_v hx hb hml hown hU hK hN hP hS 0 (p_101 hW) rfl rfl (zU_V uL_X8_49 uI_X8_begins uS_X8_begins uN_X8 uC_X8_begins) yd_X8_begins ⟨rfl, rfl⟩ ⟨Nat.le_of_ble_eq_true rfl, Nat.le_of_ble_eq_true rfl⟩ (As := []) (fun o h9 => ctX8_begins hq hW h9) rfl hl.1 rfl (Nat.le_of_ble_eq_true rfl) dX8_margin_6 ⟨Nat.zero_le _, Nat.zero_le _⟩ h (fun S_2 H locs hP hS h => ?_)
  refine lv_aload_n hx hb dX8_margin_9 rfl (lv_at hl 0 rfl) ?_
  refine lv_iload_n hx hb dX8_margin_10 rfl (lv_at hl 1 rfl) ?_
  refine z_callV_i hx hb hml hown hU hK hN hP hS 1 (p_101 hW) rfl rfl (zU_V uL_X8_71 uI_X8_isTick uS_X8_isTick uN_X8 uC_X8_isTick) yd_X8_isTick ⟨rfl, rfl⟩ ⟨Nat.le_of_ble_eq_true rfl, Nat.le_of_ble_eq_true rfl⟩ (As := [.int a1]) (fun o h9 => ctX8_isTick hq hW h9) rfl hl.1 rfl (Nat.le_of_ble_eq_true rfl) dX8_margin_11 ⟨Nat.zero_le _, Nat.zero_le _⟩ h (fun r_4 S_3 H locs hP hS h => ?_)
  refine z_if_eq (tgt := 34) hx hb dX8_margin_14 (by decide) h (fun h => ?_) (fun h => ?_)
  · refine lv_ldc2 (v := (-10000)) hx hb hown (hU _ uK_X8_167) dX8_margin_34 ?_
    exact z_lret hx hb hlocks hP hS hQ hr dX8_margin_37 h
  · refine lv_iload_n hx hb dX8_margin_17 rfl (lv_at hl 2 rfl) ?_
    refine z_if_lt (tgt := 34) hx hb dX8_margin_18 (by decide) h (fun h => ?_) (fun h => ?_)
    · refine lv_ldc2 (v := (-10000)) hx hb hown (hU _ uK_X8_167) dX8_margin_34 ?_
      exact z_lret hx hb hlocks hP hS hQ hr dX8_margin_37 h
    · refine lv_iload_n hx hb dX8_margin_21 rfl (lv_at hl 2 rfl) ?_
      refine lv_iconst (v := 1) hx hb dX8_margin_22 rfl ?_
      refine z_icmp_gt (tgt := 34) hx hb dX8_margin_23 (by decide) h (fun h => ?_) (fun h => ?_)
      · refine lv_ldc2 (v := (-10000)) hx hb hown (hU _ uK_X8_167) dX8_margin_34 ?_
        exact z_lret hx hb hlocks hP hS hQ hr dX8_margin_37 h
      · refine lv_aload_n hx hb dX8_margin_26 rfl (lv_at hl 0 rfl) ?_
        refine lv_iload_n hx hb dX8_margin_27 rfl (lv_at hl 1 rfl) ?_
        refine z_callV_i hx hb hml hown hU hK hN hP hS 1 (p_101 hW) rfl rfl (zU_V uL_X8_164 uI_X8_marginAt uS_X8_marginAt uN_X8 uC_X8_marginAt) yd_X8_marginAt ⟨rfl, rfl⟩ ⟨Nat.le_of_ble_eq_true rfl, Nat.le_of_ble_eq_true rfl⟩ (As := [.int a1]) (fun o h9 => ctX8_marginAt hq hW h9) rfl hl.1 rfl (Nat.le_of_ble_eq_true rfl) dX8_margin_28 ⟨Nat.zero_le _, Nat.zero_le _⟩ h (fun r_6 S_5 H locs hP hS h => ?_)
        refine z_if_ne (tgt := 38) hx hb dX8_margin_31 (by decide) h (fun h => ?_) (fun h => ?_)
        · refine lv_iload_n hx hb dX8_margin_38 rfl (lv_at hl 2 rfl) ?_
          refine z_if_ne (tgt := 49) hx hb dX8_margin_39 (by decide) h (fun h => ?_) (fun h => ?_)
          · refine lv_aload_n hx hb dX8_margin_49 rfl (lv_at hl 0 rfl) ?_
            refine z_get hx hb hU uU_X8 hown hK hP (p_101 hW) rfl rfl 14 (by decide) (hU _ uF_X8_155) rfl dX8_margin_50 ?_
            exact z_lret hx hb hlocks hP hS hQ hr dX8_margin_53 h
          · refine lv_aload_n hx hb dX8_margin_42 rfl (lv_at hl 0 rfl) ?_
            refine z_get hx hb hU uU_X8 hown hK hP (p_101 hW) rfl rfl 13 (by decide) (hU _ uF_X8_151) rfl dX8_margin_43 ?_
            refine lv_goto (tgt := 53) hx hb dX8_margin_46 (by decide) ?_
            exact z_lret hx hb hlocks hP hS hQ hr dX8_margin_53 h
        · refine lv_ldc2 (v := (-10000)) hx hb hown (hU _ uK_X8_167) dX8_margin_34 ?_
          exact z_lret hx hb hlocks hP hS hQ hr dX8_margin_37 h

def fX8_worsts_97 (k7 : Int32 → zT → Option (Int32 × zT)) (x1 : Int32) (S : zT) : Option (Int32 × zT) :=
  k7 (x1 + 1) S
def fX8_worsts_76 (k97 : Int32 → zT → Option (Int32 × zT)) (x1 : Int32) (S : zT) : Option (Int32 × zT) :=
  zlet (zsi S 101 17 x1) fun S_1 =>
  zlet (zsl S_1 101 15 (S_1.2 101 13)) fun S_2 =>
  zlet (zsl S_2 101 16 (S_2.2 101 14)) fun S_3 =>
  k97 x1 S_3
def fX8_worsts_7 (rec : Int32 → zT → Option (Int32 × zT)) (x1 : Int32) (S : zT) : Option (Int32 × zT) :=
  (if (S.1 102 6) ≤ x1 then (if (S.1 101 17) = (-1) then some (0, S) else some (1, S)) else if ¬ ((23 + x1) < 0 ∨ 48 ≤ (23 + x1).toNatClampNeg) then (if (S.1 102 (23 + x1).toNatClampNeg) = 0 then (fX8_worsts_97 rec) x1 S else zbi (fX8_marginAt x1 S) fun r_5 S_4 =>
  (if r_5 = 0 then some (0, S_4) else (if (S_4.1 101 17) = (-1) then (fX8_worsts_76 (fX8_worsts_97 rec)) x1 S_4 else (if (lg_cmp ((S_4.2 101 13) * (S_4.2 101 16)) ((S_4.2 101 15) * (S_4.2 101 14))) < 0 then (fX8_worsts_76 (fX8_worsts_97 rec)) x1 S_4 else (fX8_worsts_97 rec) x1 S_4)))) else none)
def fX8_worsts (S : zT) : Option (Int32 × zT) :=
  zlet (zsi S 101 17 (-1)) fun S_6 =>
  (zfix (fun _ _ => none) fX8_worsts_7 zF) 0 S_6
abbrev rmX8_worsts : Room := { frames := 6, cells := 0, slots := 0, locals := 140 }
theorem yd_X8_worsts : yX8_worsts.cls = RX8 ∧ yX8_worsts.cls ≠ "java/lang/invoke/MethodHandle" ∧ yX8_worsts.cls ≠ "java/lang/invoke/VarHandle" ∧ (parseMethodDescriptor yX8_worsts.desc).map (fun d => d.parameters.length) = some 0 := by decide +kernel
set_option maxRecDepth 100000 in
set_option maxHeartbeats 4000000 in
theorem ctX8_worsts {l : Launch} {dC : Nat → ClassId} {dI : Nat → Nat → Nat} {cI : ClassId × ClassId} {cW : List zSh} {q : Nat → Nat} (hq : zI cW q) (hW : zIs cI cW) {S : zT} {o : Int32 × zT} (h : fX8_worsts S = some o) : zCi l dC dI cI cW q yX8_worsts (Cond.code yX8_worsts cX8_worsts 2 (some .boolean) :: zU) rmX8_worsts [.ref (q 101)] S o := by
  refine zMet_i (lv := [(0, .ref (q 101))]) (by decide) (Nat.le_of_ble_eq_true rfl) rfl ?_
  intro p e s m args below meth c Q hx hb hml hr hU hown hlocks hK hN hP hS ls hl hQ
  replace hown : s.vm.findClass RX8 = some m.cls := hown
  unfold fX8_worsts at h
  have L7 : ∀ (n7 : Nat) (x1 : Int32) (S : zT) (H : Heap) (locs : List Loc) (ls : Array Slot), va_P (dC, dI) vwCl (zWd cI cW q S) H → va_S (zA cW q) s.heap H locs → lv_has ls 2 [(0, .ref (q 101)), (1, .int x1)] → (zfix (fun _ _ => none) fX8_worsts_7 n7) x1 S = some o → W p l e rmX8_worsts s m args below meth c H locs 0 0 Q (F0 m 7 ls []) := by
    intro n7
    induction n7 with
    | zero => intro x1 S H locs ls hP hS hl h; exact zno (show (none : Option (Int32 × zT)) = some o from h)
    | succ n7 ih7 =>
      intro x1 S H locs ls hP hS hl h
      replace h : fX8_worsts_7 (zfix (fun _ _ => none) fX8_worsts_7 n7) x1 S = some o := h
      unfold fX8_worsts_7 at h
      have L97 : ∀ (x1 : Int32) (S : zT) (H : Heap) (locs : List Loc) (ls : Array Slot), va_P (dC, dI) vwCl (zWd cI cW q S) H → va_S (zA cW q) s.heap H locs → lv_has ls 2 [(0, .ref (q 101)), (1, .int x1)] → (fX8_worsts_97 (zfix (fun _ _ => none) fX8_worsts_7 n7)) x1 S = some o → W p l e rmX8_worsts s m args below meth c H locs 0 0 Q (F0 m 97 ls []) := by
        intro x1 S H locs ls hP hS hl h
        unfold fX8_worsts_97 at h
        refine lv_iinc (v := (x1 + 1)) (lv' := [(1, .int (x1 + 1)), (0, .ref (q 101))]) hx hb dX8_worsts_97 hl (k := 1) rfl rfl (by decide) rfl (fun ls hl => ?_)
        refine lv_goto (tgt := 7) hx hb dX8_worsts_100 (by decide) ?_
        exact ih7 (x1 + 1) _ _ _ ls hP hS (lv_sub hl [1, 0] rfl) h
      have L76 : ∀ (x1 : Int32) (S : zT) (H : Heap) (locs : List Loc) (ls : Array Slot), va_P (dC, dI) vwCl (zWd cI cW q S) H → va_S (zA cW q) s.heap H locs → lv_has ls 2 [(0, .ref (q 101)), (1, .int x1)] → (fX8_worsts_76 (fX8_worsts_97 (zfix (fun _ _ => none) fX8_worsts_7 n7))) x1 S = some o → W p l e rmX8_worsts s m args below meth c H locs 0 0 Q (F0 m 76 ls []) := by
        intro x1 S H locs ls hP hS hl h
        unfold fX8_worsts_76 at h
        refine lv_aload_n hx hb dX8_worsts_76 rfl (lv_at hl 0 rfl) ?_
        refine lv_iload_n hx hb dX8_worsts_77 rfl (lv_at hl 1 rfl) ?_
        refine z_puti hx hb hU uU_X8 tyX8 tyX8_ok nmX8 hown hq hK hP hS (p_101 hW) rfl rfl 17 (by decide) (hU _ uF_X8_169) rfl rfl rfl (Nat.le_of_ble_eq_true rfl) rfl dX8_worsts_78 h (fun S_1 H locs hP hS h => ?_)
        refine lv_aload_n hx hb dX8_worsts_81 rfl (lv_at hl 0 rfl) ?_
        refine lv_aload_n hx hb dX8_worsts_82 rfl (lv_at hl 0 rfl) ?_
        refine z_get hx hb hU uU_X8 hown hK hP (p_101 hW) rfl rfl 13 (by decide) (hU _ uF_X8_151) rfl dX8_worsts_83 ?_
        refine z_putl hx hb hU uU_X8 tyX8 tyX8_ok nmX8 hown hq hK hP hS (p_101 hW) rfl rfl 15 (by decide) (hU _ uF_X8_175) rfl rfl rfl (Nat.le_of_ble_eq_true rfl) rfl dX8_worsts_86 h (fun S_2 H locs hP hS h => ?_)
        refine lv_aload_n hx hb dX8_worsts_89 rfl (lv_at hl 0 rfl) ?_
        refine lv_aload_n hx hb dX8_worsts_90 rfl (lv_at hl 0 rfl) ?_
        refine z_get hx hb hU uU_X8 hown hK hP (p_101 hW) rfl rfl 14 (by decide) (hU _ uF_X8_155) rfl dX8_worsts_91 ?_
        refine z_putl hx hb hU uU_X8 tyX8 tyX8_ok nmX8 hown hq hK hP hS (p_101 hW) rfl rfl 16 (by decide) (hU _ uF_X8_172) rfl rfl rfl (Nat.le_of_ble_eq_true rfl) rfl dX8_worsts_94 h (fun S_3 H locs hP hS h => ?_)
        exact L97 x1 _ _ _ ls hP hS (lv_sub hl [0, 1] rfl) h
      refine lv_iload_n hx hb dX8_worsts_7 rfl (lv_at hl 1 rfl) ?_
      refine lv_aload_n hx hb dX8_worsts_8 rfl (lv_at hl 0 rfl) ?_
      refine z_get hx hb hU uU_X8 hown hK hP (p_101 hW) rfl rfl 1 (by decide) (hU _ uF_X8_7) rfl dX8_worsts_9 ?_
      refine lv_bipush (v := 6) hx hb dX8_worsts_12 rfl ?_
      refine z_ialdC (j := 6) hx hb hK hP (pA_102 hW) dX8_worsts_14 rfl (by decide) ?_
      refine z_icmp_ge (tgt := 103) hx hb dX8_worsts_15 (by decide) h (fun h => ?_) (fun h => ?_)
      · refine lv_aload_n hx hb dX8_worsts_103 rfl (lv_at hl 0 rfl) ?_
        refine z_get hx hb hU uU_X8 hown hK hP (p_101 hW) rfl rfl 17 (by decide) (hU _ uF_X8_169) rfl dX8_worsts_104 ?_
        refine lv_iconst (v := (-1)) hx hb dX8_worsts_107 rfl ?_
        refine z_icmp_eq (tgt := 115) hx hb dX8_worsts_108 (by decide) h (fun h => ?_) (fun h => ?_)
        · refine lv_iconst (v := 0) hx hb dX8_worsts_115 rfl ?_
          exact z_zretC hx hb hlocks hP hS hQ hr dX8_worsts_116 (Or.inl rfl) h
        · refine lv_iconst (v := 1) hx hb dX8_worsts_111 rfl ?_
          refine lv_goto (tgt := 116) hx hb dX8_worsts_112 (by decide) ?_
          exact z_zretC hx hb hlocks hP hS hQ hr dX8_worsts_116 (Or.inr rfl) h
      · refine lv_aload_n hx hb dX8_worsts_18 rfl (lv_at hl 0 rfl) ?_
        refine z_get hx hb hU uU_X8 hown hK hP (p_101 hW) rfl rfl 1 (by decide) (hU _ uF_X8_7) rfl dX8_worsts_19 ?_
        refine lv_bipush (v := 23) hx hb dX8_worsts_22 rfl ?_
        refine lv_iload_n hx hb dX8_worsts_24 rfl (lv_at hl 1 rfl) ?_
        refine lv_iadd hx hb dX8_worsts_25 ?_
        refine z_iald hx hb hK hP (pA_102 hW) dX8_worsts_26 h (fun h => ?_)
        refine z_if_ne (tgt := 33) hx hb dX8_worsts_27 (by decide) h (fun h => ?_) (fun h => ?_)
        · refine lv_aload_n hx hb dX8_worsts_33 rfl (lv_at hl 0 rfl) ?_
          refine lv_iload_n hx hb dX8_worsts_34 rfl (lv_at hl 1 rfl) ?_
          refine z_callV_i hx hb hml hown hU hK hN hP hS 1 (p_101 hW) rfl rfl (zU_V uL_X8_164 uI_X8_marginAt uS_X8_marginAt uN_X8 uC_X8_marginAt) yd_X8_marginAt ⟨rfl, rfl⟩ ⟨Nat.le_of_ble_eq_true rfl, Nat.le_of_ble_eq_true rfl⟩ (As := [.int x1]) (fun o h9 => ctX8_marginAt hq hW h9) rfl hl.1 rfl (Nat.le_of_ble_eq_true rfl) dX8_worsts_35 ⟨Nat.zero_le _, Nat.zero_le _⟩ h (fun r_5 S_4 H locs hP hS h => ?_)
          refine z_if_ne (tgt := 43) hx hb dX8_worsts_38 (by decide) h (fun h => ?_) (fun h => ?_)
          · refine lv_aload_n hx hb dX8_worsts_43 rfl (lv_at hl 0 rfl) ?_
            refine z_get hx hb hU uU_X8 hown hK hP (p_101 hW) rfl rfl 17 (by decide) (hU _ uF_X8_169) rfl dX8_worsts_44 ?_
            refine lv_iconst (v := (-1)) hx hb dX8_worsts_47 rfl ?_
            refine z_icmp_eq (tgt := 76) hx hb dX8_worsts_48 (by decide) h (fun h => ?_) (fun h => ?_)
            · exact L76 x1 _ _ _ ls hP hS (lv_sub hl [0, 1] rfl) h
            · refine lv_aload_n hx hb dX8_worsts_51 rfl (lv_at hl 0 rfl) ?_
              refine z_get hx hb hU uU_X8 hown hK hP (p_101 hW) rfl rfl 13 (by decide) (hU _ uF_X8_151) rfl dX8_worsts_52 ?_
              refine lv_aload_n hx hb dX8_worsts_55 rfl (lv_at hl 0 rfl) ?_
              refine z_get hx hb hU uU_X8 hown hK hP (p_101 hW) rfl rfl 16 (by decide) (hU _ uF_X8_172) rfl dX8_worsts_56 ?_
              refine lv_lmul hx hb dX8_worsts_59 ?_
              refine lv_aload_n hx hb dX8_worsts_60 rfl (lv_at hl 0 rfl) ?_
              refine z_get hx hb hU uU_X8 hown hK hP (p_101 hW) rfl rfl 15 (by decide) (hU _ uF_X8_175) rfl dX8_worsts_61 ?_
              refine lv_aload_n hx hb dX8_worsts_64 rfl (lv_at hl 0 rfl) ?_
              refine z_get hx hb hU uU_X8 hown hK hP (p_101 hW) rfl rfl 14 (by decide) (hU _ uF_X8_155) rfl dX8_worsts_65 ?_
              refine lv_lmul hx hb dX8_worsts_68 ?_
              refine W.lcmp hx hb dX8_worsts_69 ?_
              refine z_if_lt (tgt := 76) hx hb dX8_worsts_70 (by decide) h (fun h => ?_) (fun h => ?_)
              · exact L76 x1 _ _ _ ls hP hS (lv_sub hl [0, 1] rfl) h
              · refine lv_goto (tgt := 97) hx hb dX8_worsts_73 (by decide) ?_
                exact L97 x1 _ _ _ ls hP hS (lv_sub hl [0, 1] rfl) h
          · refine lv_iconst (v := 0) hx hb dX8_worsts_41 rfl ?_
            exact z_zretC hx hb hlocks hP hS hQ hr dX8_worsts_42 (Or.inl rfl) h
        · refine lv_goto (tgt := 97) hx hb dX8_worsts_30 (by decide) ?_
          exact L97 x1 _ _ _ ls hP hS (lv_sub hl [0, 1] rfl) h
  refine lv_aload_n hx hb dX8_worsts_0 rfl (lv_at hl 0 rfl) ?_
  refine lv_iconst (v := (-1)) hx hb dX8_worsts_1 rfl ?_
  refine z_puti hx hb hU uU_X8 tyX8 tyX8_ok nmX8 hown hq hK hP hS (p_101 hW) rfl rfl 17 (by decide) (hU _ uF_X8_169) rfl rfl rfl (Nat.le_of_ble_eq_true rfl) rfl dX8_worsts_2 h (fun S_6 H locs hP hS h => ?_)
  refine lv_iconst (v := 0) hx hb dX8_worsts_5 rfl ?_
  refine lv_istore_n (lv' := [(1, .int 0), (0, .ref (q 101))]) hx hb dX8_worsts_6 rfl hl (by decide) rfl (fun ls hl => ?_)
  exact L7 zF 0 _ _ _ ls hP hS (lv_sub hl [1, 0] rfl) h

def fX8_worst (a1 : Int32) (S : zT) : Option (Int64 × zT) :=
  zlet (zsi S 101 0 0) fun S_1 =>
  zbv (fX8_begins S_1) fun S_2 =>
  (if a1 < 0 then some ((-10000), S_2) else (if 2 < a1 then some ((-10000), S_2) else zbi (fX8_worsts S_2) fun r_4 S_3 =>
  (if r_4 = 0 then some ((-10000), S_3) else (if a1 = 0 then some ((S_3.2 101 15), S_3) else (if a1 = 1 then some ((S_3.2 101 16), S_3) else some (((S_3.1 101 17)).toInt64, S_3))))))
abbrev rmX8_worst : Room := { frames := 7, cells := 0, slots := 0, locals := 161 }
theorem yd_X8_worst : yX8_worst.cls = RX8 ∧ yX8_worst.cls ≠ "java/lang/invoke/MethodHandle" ∧ yX8_worst.cls ≠ "java/lang/invoke/VarHandle" ∧ (parseMethodDescriptor yX8_worst.desc).map (fun d => d.parameters.length) = some 1 := by decide +kernel
set_option maxRecDepth 100000 in
set_option maxHeartbeats 4000000 in
theorem ctX8_worst {l : Launch} {dC : Nat → ClassId} {dI : Nat → Nat → Nat} {cI : ClassId × ClassId} {cW : List zSh} {q : Nat → Nat} (hq : zI cW q) (hW : zIs cI cW) {a1 : Int32} {S : zT} {o : Int64 × zT} (h : fX8_worst a1 S = some o) : zCl l dC dI cI cW q yX8_worst (Cond.code yX8_worst cX8_worst 2 (some .long) :: zU) rmX8_worst [.ref (q 101), .int a1] S o := by
  refine zMet_l (lv := [(0, .ref (q 101)), (1, .int a1)]) (by decide) (Nat.le_of_ble_eq_true rfl) rfl ?_
  intro p e s m args below meth c Q hx hb hml hr hU hown hlocks hK hN hP hS ls hl hQ
  replace hown : s.vm.findClass RX8 = some m.cls := hown
  unfold fX8_worst at h
  refine lv_aload_n hx hb dX8_worst_0 rfl (lv_at hl 0 rfl) ?_
  refine lv_iconst (v := 0) hx hb dX8_worst_1 rfl ?_
  refine z_puti hx hb hU uU_X8 tyX8 tyX8_ok nmX8 hown hq hK hP hS (p_101 hW) rfl rfl 0 (by decide) (hU _ uF_X8_34) rfl rfl rfl (Nat.le_of_ble_eq_true rfl) rfl dX8_worst_2 h (fun S_1 H locs hP hS h => ?_)
  refine lv_aload_n hx hb dX8_worst_5 rfl (lv_at hl 0 rfl) ?_
  refine z_callV_v hx hb hml hown hU hK hN hP hS 0 (p_101 hW) rfl rfl (zU_V uL_X8_49 uI_X8_begins uS_X8_begins uN_X8 uC_X8_begins) yd_X8_begins ⟨rfl, rfl⟩ ⟨Nat.le_of_ble_eq_true rfl, Nat.le_of_ble_eq_true rfl⟩ (As := []) (fun o h9 => ctX8_begins hq hW h9) rfl hl.1 rfl (Nat.le_of_ble_eq_true rfl) dX8_worst_6 ⟨Nat.zero_le _, Nat.zero_le _⟩ h (fun S_2 H locs hP hS h => ?_)
  refine lv_iload_n hx hb dX8_worst_9 rfl (lv_at hl 1 rfl) ?_
  refine z_if_lt (tgt := 25) hx hb dX8_worst_10 (by decide) h (fun h => ?_) (fun h => ?_)
  · refine lv_ldc2 (v := (-10000)) hx hb hown (hU _ uK_X8_167) dX8_worst_25 ?_
    exact z_lret hx hb hlocks hP hS hQ hr dX8_worst_28 h
  · refine lv_iload_n hx hb dX8_worst_13 rfl (lv_at hl 1 rfl) ?_
    refine lv_iconst (v := 2) hx hb dX8_worst_14 rfl ?_
    refine z_icmp_gt (tgt := 25) hx hb dX8_worst_15 (by decide) h (fun h => ?_) (fun h => ?_)
    · refine lv_ldc2 (v := (-10000)) hx hb hown (hU _ uK_X8_167) dX8_worst_25 ?_
      exact z_lret hx hb hlocks hP hS hQ hr dX8_worst_28 h
    · refine lv_aload_n hx hb dX8_worst_18 rfl (lv_at hl 0 rfl) ?_
      refine z_callV_i hx hb hml hown hU hK hN hP hS 0 (p_101 hW) rfl rfl (zU_V uL_X8_178 uI_X8_worsts uS_X8_worsts uN_X8 uC_X8_worsts) yd_X8_worsts ⟨rfl, rfl⟩ ⟨Nat.le_of_ble_eq_true rfl, Nat.le_of_ble_eq_true rfl⟩ (As := []) (fun o h9 => ctX8_worsts hq hW h9) rfl hl.1 rfl (Nat.le_of_ble_eq_true rfl) dX8_worst_19 ⟨Nat.zero_le _, Nat.zero_le _⟩ h (fun r_4 S_3 H locs hP hS h => ?_)
      refine z_if_ne (tgt := 29) hx hb dX8_worst_22 (by decide) h (fun h => ?_) (fun h => ?_)
      · refine lv_iload_n hx hb dX8_worst_29 rfl (lv_at hl 1 rfl) ?_
        refine z_if_ne (tgt := 40) hx hb dX8_worst_30 (by decide) h (fun h => ?_) (fun h => ?_)
        · refine lv_iload_n hx hb dX8_worst_40 rfl (lv_at hl 1 rfl) ?_
          refine lv_iconst (v := 1) hx hb dX8_worst_41 rfl ?_
          refine z_icmp_ne (tgt := 52) hx hb dX8_worst_42 (by decide) h (fun h => ?_) (fun h => ?_)
          · refine lv_aload_n hx hb dX8_worst_52 rfl (lv_at hl 0 rfl) ?_
            refine z_get hx hb hU uU_X8 hown hK hP (p_101 hW) rfl rfl 17 (by decide) (hU _ uF_X8_169) rfl dX8_worst_53 ?_
            refine lv_i2l (v := ((S_3.1 101 17)).toInt64) hx hb dX8_worst_56 rfl ?_
            exact z_lret hx hb hlocks hP hS hQ hr dX8_worst_57 h
          · refine lv_aload_n hx hb dX8_worst_45 rfl (lv_at hl 0 rfl) ?_
            refine z_get hx hb hU uU_X8 hown hK hP (p_101 hW) rfl rfl 16 (by decide) (hU _ uF_X8_172) rfl dX8_worst_46 ?_
            refine lv_goto (tgt := 57) hx hb dX8_worst_49 (by decide) ?_
            exact z_lret hx hb hlocks hP hS hQ hr dX8_worst_57 h
        · refine lv_aload_n hx hb dX8_worst_33 rfl (lv_at hl 0 rfl) ?_
          refine z_get hx hb hU uU_X8 hown hK hP (p_101 hW) rfl rfl 15 (by decide) (hU _ uF_X8_175) rfl dX8_worst_34 ?_
          refine lv_goto (tgt := 57) hx hb dX8_worst_37 (by decide) ?_
          exact z_lret hx hb hlocks hP hS hQ hr dX8_worst_57 h
      · refine lv_ldc2 (v := (-10000)) hx hb hown (hU _ uK_X8_167) dX8_worst_25 ?_
        exact z_lret hx hb hlocks hP hS hQ hr dX8_worst_28 h

def fX8_fastest_43 (k20 : Int32 → Int32 → Int32 → zT → Option (Int32 × zT)) (x1 : Int32) (x2 : Int32) (x3 : Int32) (S : zT) : Option (Int32 × zT) :=
  k20 x1 x2 (x3 + 1) S
def fX8_fastest_20 (rec : Int32 → Int32 → Int32 → zT → Option (Int32 × zT)) (x1 : Int32) (x2 : Int32) (x3 : Int32) (S : zT) : Option (Int32 × zT) :=
  (if 9 < x3 then zlet (zsi S 102 2 x1) fun S_1 =>
  some (x2, S_1) else zlet (zsi S 102 2 x3) fun S_2 =>
  zbi (fX8_whyNot S_2) fun r_4 S_3 =>
  (if r_4 = (-1) then (fX8_fastest_43 rec) x1 x3 x3 S_3 else (fX8_fastest_43 rec) x1 x2 x3 S_3))
def fX8_fastest (S : zT) : Option (Int32 × zT) :=
  zlet (zsi S 101 0 0) fun S_5 =>
  zbv (fX8_begins S_5) fun S_6 =>
  (zfix (fun _ _ _ _ => none) fX8_fastest_20 zF) (S_6.1 102 2) (-1) 0 S_6
abbrev rmX8_fastest : Room := { frames := 7, cells := 0, slots := 0, locals := 157 }
theorem yd_X8_fastest : yX8_fastest.cls = RX8 ∧ yX8_fastest.cls ≠ "java/lang/invoke/MethodHandle" ∧ yX8_fastest.cls ≠ "java/lang/invoke/VarHandle" ∧ (parseMethodDescriptor yX8_fastest.desc).map (fun d => d.parameters.length) = some 0 := by decide +kernel
set_option maxRecDepth 100000 in
set_option maxHeartbeats 4000000 in
theorem ctX8_fastest {l : Launch} {dC : Nat → ClassId} {dI : Nat → Nat → Nat} {cI : ClassId × ClassId} {cW : List zSh} {q : Nat → Nat} (hq : zI cW q) (hW : zIs cI cW) {S : zT} {o : Int32 × zT} (h : fX8_fastest S = some o) : zCi l dC dI cI cW q yX8_fastest (Cond.code yX8_fastest cX8_fastest 4 (some .int) :: zU) rmX8_fastest [.ref (q 101)] S o := by
  refine zMet_i (lv := [(0, .ref (q 101))]) (by decide) (Nat.le_of_ble_eq_true rfl) rfl ?_
  intro p e s m args below meth c Q hx hb hml hr hU hown hlocks hK hN hP hS ls hl hQ
  replace hown : s.vm.findClass RX8 = some m.cls := hown
  unfold fX8_fastest at h
  have L20 : ∀ (n20 : Nat) (x1 : Int32) (x2 : Int32) (x3 : Int32) (S : zT) (H : Heap) (locs : List Loc) (ls : Array Slot), va_P (dC, dI) vwCl (zWd cI cW q S) H → va_S (zA cW q) s.heap H locs → lv_has ls 4 [(0, .ref (q 101)), (1, .int x1), (2, .int x2), (3, .int x3)] → (zfix (fun _ _ _ _ => none) fX8_fastest_20 n20) x1 x2 x3 S = some o → W p l e rmX8_fastest s m args below meth c H locs 0 0 Q (F0 m 20 ls []) := by
    intro n20
    induction n20 with
    | zero => intro x1 x2 x3 S H locs ls hP hS hl h; exact zno (show (none : Option (Int32 × zT)) = some o from h)
    | succ n20 ih20 =>
      intro x1 x2 x3 S H locs ls hP hS hl h
      replace h : fX8_fastest_20 (zfix (fun _ _ _ _ => none) fX8_fastest_20 n20) x1 x2 x3 S = some o := h
      unfold fX8_fastest_20 at h
      have L43 : ∀ (x1 : Int32) (x2 : Int32) (x3 : Int32) (S : zT) (H : Heap) (locs : List Loc) (ls : Array Slot), va_P (dC, dI) vwCl (zWd cI cW q S) H → va_S (zA cW q) s.heap H locs → lv_has ls 4 [(0, .ref (q 101)), (1, .int x1), (2, .int x2), (3, .int x3)] → (fX8_fastest_43 (zfix (fun _ _ _ _ => none) fX8_fastest_20 n20)) x1 x2 x3 S = some o → W p l e rmX8_fastest s m args below meth c H locs 0 0 Q (F0 m 43 ls []) := by
        intro x1 x2 x3 S H locs ls hP hS hl h
        unfold fX8_fastest_43 at h
        refine lv_iinc (v := (x3 + 1)) (lv' := [(3, .int (x3 + 1)), (0, .ref (q 101)), (1, .int x1), (2, .int x2)]) hx hb dX8_fastest_43 hl (k := 3) rfl rfl (by decide) rfl (fun ls hl => ?_)
        refine lv_goto (tgt := 20) hx hb dX8_fastest_46 (by decide) ?_
        exact ih20 x1 x2 (x3 + 1) _ _ _ ls hP hS (lv_sub hl [1, 2, 3, 0] rfl) h
      refine lv_iload_n hx hb dX8_fastest_20 rfl (lv_at hl 3 rfl) ?_
      refine lv_bipush (v := 9) hx hb dX8_fastest_21 rfl ?_
      refine z_icmp_gt (tgt := 49) hx hb dX8_fastest_23 (by decide) h (fun h => ?_) (fun h => ?_)
      · refine lv_aload_n hx hb dX8_fastest_49 rfl (lv_at hl 0 rfl) ?_
        refine z_get hx hb hU uU_X8 hown hK hP (p_101 hW) rfl rfl 1 (by decide) (hU _ uF_X8_7) rfl dX8_fastest_50 ?_
        refine lv_iconst (v := 2) hx hb dX8_fastest_53 rfl ?_
        refine lv_iload_n hx hb dX8_fastest_54 rfl (lv_at hl 1 rfl) ?_
        refine z_iastC (j := 2) hx hb hq hK hP hS (pA_102 hW) dX8_fastest_55 rfl (by decide) h (fun S_1 H locs hP hS h => ?_)
        refine lv_iload_n hx hb dX8_fastest_56 rfl (lv_at hl 2 rfl) ?_
        exact z_iret hx hb hlocks hP hS hQ hr dX8_fastest_57 h
      · refine lv_aload_n hx hb dX8_fastest_26 rfl (lv_at hl 0 rfl) ?_
        refine z_get hx hb hU uU_X8 hown hK hP (p_101 hW) rfl rfl 1 (by decide) (hU _ uF_X8_7) rfl dX8_fastest_27 ?_
        refine lv_iconst (v := 2) hx hb dX8_fastest_30 rfl ?_
        refine lv_iload_n hx hb dX8_fastest_31 rfl (lv_at hl 3 rfl) ?_
        refine z_iastC (j := 2) hx hb hq hK hP hS (pA_102 hW) dX8_fastest_32 rfl (by decide) h (fun S_2 H locs hP hS h => ?_)
        refine lv_aload_n hx hb dX8_fastest_33 rfl (lv_at hl 0 rfl) ?_
        refine z_callV_i hx hb hml hown hU hK hN hP hS 0 (p_101 hW) rfl rfl (zU_V uL_X8_143 uI_X8_whyNot uS_X8_whyNot uN_X8 uC_X8_whyNot) yd_X8_whyNot ⟨rfl, rfl⟩ ⟨Nat.le_of_ble_eq_true rfl, Nat.le_of_ble_eq_true rfl⟩ (As := []) (fun o h9 => ctX8_whyNot hq hW h9) rfl hl.1 rfl (Nat.le_of_ble_eq_true rfl) dX8_fastest_34 ⟨Nat.zero_le _, Nat.zero_le _⟩ h (fun r_4 S_3 H locs hP hS h => ?_)
        refine lv_iconst (v := (-1)) hx hb dX8_fastest_37 rfl ?_
        refine z_icmp_ne (tgt := 43) hx hb dX8_fastest_38 (by decide) h (fun h => ?_) (fun h => ?_)
        · exact L43 x1 x2 x3 _ _ _ ls hP hS (lv_sub hl [0, 1, 2, 3] rfl) h
        · refine lv_iload_n hx hb dX8_fastest_41 rfl (lv_at hl 3 rfl) ?_
          refine lv_istore_n (lv' := [(2, .int x3), (0, .ref (q 101)), (1, .int x1), (3, .int x3)]) hx hb dX8_fastest_42 rfl hl (by decide) rfl (fun ls hl => ?_)
          exact L43 x1 x3 x3 _ _ _ ls hP hS (lv_sub hl [1, 2, 0, 3] rfl) h
  refine lv_aload_n hx hb dX8_fastest_0 rfl (lv_at hl 0 rfl) ?_
  refine lv_iconst (v := 0) hx hb dX8_fastest_1 rfl ?_
  refine z_puti hx hb hU uU_X8 tyX8 tyX8_ok nmX8 hown hq hK hP hS (p_101 hW) rfl rfl 0 (by decide) (hU _ uF_X8_34) rfl rfl rfl (Nat.le_of_ble_eq_true rfl) rfl dX8_fastest_2 h (fun S_5 H locs hP hS h => ?_)
  refine lv_aload_n hx hb dX8_fastest_5 rfl (lv_at hl 0 rfl) ?_
  refine z_callV_v hx hb hml hown hU hK hN hP hS 0 (p_101 hW) rfl rfl (zU_V uL_X8_49 uI_X8_begins uS_X8_begins uN_X8 uC_X8_begins) yd_X8_begins ⟨rfl, rfl⟩ ⟨Nat.le_of_ble_eq_true rfl, Nat.le_of_ble_eq_true rfl⟩ (As := []) (fun o h9 => ctX8_begins hq hW h9) rfl hl.1 rfl (Nat.le_of_ble_eq_true rfl) dX8_fastest_6 ⟨Nat.zero_le _, Nat.zero_le _⟩ h (fun S_6 H locs hP hS h => ?_)
  refine lv_aload_n hx hb dX8_fastest_9 rfl (lv_at hl 0 rfl) ?_
  refine z_get hx hb hU uU_X8 hown hK hP (p_101 hW) rfl rfl 1 (by decide) (hU _ uF_X8_7) rfl dX8_fastest_10 ?_
  refine lv_iconst (v := 2) hx hb dX8_fastest_13 rfl ?_
  refine z_ialdC (j := 2) hx hb hK hP (pA_102 hW) dX8_fastest_14 rfl (by decide) ?_
  refine lv_istore_n (lv' := [(1, .int (S_6.1 102 2)), (0, .ref (q 101))]) hx hb dX8_fastest_15 rfl hl (by decide) rfl (fun ls hl => ?_)
  refine lv_iconst (v := (-1)) hx hb dX8_fastest_16 rfl ?_
  refine lv_istore_n (lv' := [(2, .int (-1)), (1, .int (S_6.1 102 2)), (0, .ref (q 101))]) hx hb dX8_fastest_17 rfl hl (by decide) rfl (fun ls hl => ?_)
  refine lv_iconst (v := 0) hx hb dX8_fastest_18 rfl ?_
  refine lv_istore_n (lv' := [(3, .int 0), (2, .int (-1)), (1, .int (S_6.1 102 2)), (0, .ref (q 101))]) hx hb dX8_fastest_19 rfl hl (by decide) rfl (fun ls hl => ?_)
  exact L20 zF (S_6.1 102 2) (-1) 0 _ _ _ ls hP hS (lv_sub hl [3, 2, 1, 0] rfl) h

def fX8_goAside_2 (rec : Int32 → zT → Option zT) (x1 : Int32) (S : zT) : Option zT :=
  (if 48 ≤ x1 then some S else if ¬ (x1 < 0 ∨ 48 ≤ x1.toNatClampNeg) then if ¬ (x1 < 0 ∨ 48 ≤ x1.toNatClampNeg) then zlet (zsi S 106 x1.toNatClampNeg (S.1 102 x1.toNatClampNeg)) (fun S_1 =>
  rec (x1 + 1) S_1) else none else none)
def fX8_goAside (S : zT) : Option zT :=
  (zfix (fun _ _ => none) fX8_goAside_2 zF) 0 S
abbrev rmX8_goAside : Room := { frames := 0, cells := 0, slots := 0, locals := 0 }
theorem yd_X8_goAside : yX8_goAside.cls = RX8 ∧ yX8_goAside.cls ≠ "java/lang/invoke/MethodHandle" ∧ yX8_goAside.cls ≠ "java/lang/invoke/VarHandle" ∧ (parseMethodDescriptor yX8_goAside.desc).map (fun d => d.parameters.length) = some 0 := by decide +kernel
set_option maxRecDepth 100000 in
set_option maxHeartbeats 4000000 in
theorem ctX8_goAside {l : Launch} {dC : Nat → ClassId} {dI : Nat → Nat → Nat} {cI : ClassId × ClassId} {cW : List zSh} {q : Nat → Nat} (hq : zI cW q) (hW : zIs cI cW) {S : zT} {o : zT} (h : fX8_goAside S = some o) : zCv l dC dI cI cW q yX8_goAside (Cond.code yX8_goAside cX8_goAside 2 none :: zU) rmX8_goAside [.ref (q 101)] S o := by
  refine zMet_v (lv := [(0, .ref (q 101))]) (by decide) (Nat.le_of_ble_eq_true rfl) rfl ?_
  intro p e s m args below meth c Q hx hb hml hr hU hown hlocks hK hN hP hS ls hl hQ
  replace hown : s.vm.findClass RX8 = some m.cls := hown
  unfold fX8_goAside at h
  have L2 : ∀ (n2 : Nat) (x1 : Int32) (S : zT) (H : Heap) (locs : List Loc) (ls : Array Slot), va_P (dC, dI) vwCl (zWd cI cW q S) H → va_S (zA cW q) s.heap H locs → lv_has ls 2 [(0, .ref (q 101)), (1, .int x1)] → (zfix (fun _ _ => none) fX8_goAside_2 n2) x1 S = some o → W p l e rmX8_goAside s m args below meth c H locs 0 0 Q (F0 m 2 ls []) := by
    intro n2
    induction n2 with
    | zero => intro x1 S H locs ls hP hS hl h; exact zno (show (none : Option zT) = some o from h)
    | succ n2 ih2 =>
      intro x1 S H locs ls hP hS hl h
      replace h : fX8_goAside_2 (zfix (fun _ _ => none) fX8_goAside_2 n2) x1 S = some o := h
      unfold fX8_goAside_2 at h
      refine lv_iload_n hx hb dX8_goAside_2 rfl (lv_at hl 1 rfl) ?_
      refine lv_bipush (v := 48) hx hb dX8_goAside_3 rfl ?_
      refine z_icmp_ge (tgt := 26) hx hb dX8_goAside_5 (by decide) h (fun h => ?_) (fun h => ?_)
      · exact z_vret hx hb hlocks hP hS hQ hr dX8_goAside_26 h
      · refine lv_aload_n hx hb dX8_goAside_8 rfl (lv_at hl 0 rfl) ?_
        refine z_get hx hb hU uU_X8 hown hK hP (p_101 hW) rfl rfl 18 (by decide) (hU _ uF_X8_22) rfl dX8_goAside_9 ?_
        refine lv_iload_n hx hb dX8_goAside_12 rfl (lv_at hl 1 rfl) ?_
        refine lv_aload_n hx hb dX8_goAside_13 rfl (lv_at hl 0 rfl) ?_
        refine z_get hx hb hU uU_X8 hown hK hP (p_101 hW) rfl rfl 1 (by decide) (hU _ uF_X8_7) rfl dX8_goAside_14 ?_
        refine lv_iload_n hx hb dX8_goAside_17 rfl (lv_at hl 1 rfl) ?_
        refine z_iald hx hb hK hP (pA_102 hW) dX8_goAside_18 h (fun h => ?_)
        refine z_iast hx hb hq hK hP hS (pA_106 hW) dX8_goAside_19 h (fun S_1 H locs hP hS h => ?_)
        refine lv_iinc (v := (x1 + 1)) (lv' := [(1, .int (x1 + 1)), (0, .ref (q 101))]) hx hb dX8_goAside_20 hl (k := 1) rfl rfl (by decide) rfl (fun ls hl => ?_)
        refine lv_goto (tgt := 2) hx hb dX8_goAside_23 (by decide) ?_
        exact ih2 (x1 + 1) _ _ _ ls hP hS (lv_sub hl [1, 0] rfl) h
  refine lv_iconst (v := 0) hx hb dX8_goAside_0 rfl ?_
  refine lv_istore_n (lv' := [(1, .int 0), (0, .ref (q 101))]) hx hb dX8_goAside_1 rfl hl (by decide) rfl (fun ls hl => ?_)
  exact L2 zF 0 _ _ _ ls hP hS (lv_sub hl [1, 0] rfl) h

def fX8_comeBack_2 (rec : Int32 → zT → Option zT) (x1 : Int32) (S : zT) : Option zT :=
  (if 48 ≤ x1 then some S else if ¬ (x1 < 0 ∨ 48 ≤ x1.toNatClampNeg) then if ¬ (x1 < 0 ∨ 48 ≤ x1.toNatClampNeg) then zlet (zsi S 102 x1.toNatClampNeg (S.1 106 x1.toNatClampNeg)) (fun S_1 =>
  rec (x1 + 1) S_1) else none else none)
def fX8_comeBack (S : zT) : Option zT :=
  (zfix (fun _ _ => none) fX8_comeBack_2 zF) 0 S
abbrev rmX8_comeBack : Room := { frames := 0, cells := 0, slots := 0, locals := 0 }
theorem yd_X8_comeBack : yX8_comeBack.cls = RX8 ∧ yX8_comeBack.cls ≠ "java/lang/invoke/MethodHandle" ∧ yX8_comeBack.cls ≠ "java/lang/invoke/VarHandle" ∧ (parseMethodDescriptor yX8_comeBack.desc).map (fun d => d.parameters.length) = some 0 := by decide +kernel
set_option maxRecDepth 100000 in
set_option maxHeartbeats 4000000 in
theorem ctX8_comeBack {l : Launch} {dC : Nat → ClassId} {dI : Nat → Nat → Nat} {cI : ClassId × ClassId} {cW : List zSh} {q : Nat → Nat} (hq : zI cW q) (hW : zIs cI cW) {S : zT} {o : zT} (h : fX8_comeBack S = some o) : zCv l dC dI cI cW q yX8_comeBack (Cond.code yX8_comeBack cX8_comeBack 2 none :: zU) rmX8_comeBack [.ref (q 101)] S o := by
  refine zMet_v (lv := [(0, .ref (q 101))]) (by decide) (Nat.le_of_ble_eq_true rfl) rfl ?_
  intro p e s m args below meth c Q hx hb hml hr hU hown hlocks hK hN hP hS ls hl hQ
  replace hown : s.vm.findClass RX8 = some m.cls := hown
  unfold fX8_comeBack at h
  have L2 : ∀ (n2 : Nat) (x1 : Int32) (S : zT) (H : Heap) (locs : List Loc) (ls : Array Slot), va_P (dC, dI) vwCl (zWd cI cW q S) H → va_S (zA cW q) s.heap H locs → lv_has ls 2 [(0, .ref (q 101)), (1, .int x1)] → (zfix (fun _ _ => none) fX8_comeBack_2 n2) x1 S = some o → W p l e rmX8_comeBack s m args below meth c H locs 0 0 Q (F0 m 2 ls []) := by
    intro n2
    induction n2 with
    | zero => intro x1 S H locs ls hP hS hl h; exact zno (show (none : Option zT) = some o from h)
    | succ n2 ih2 =>
      intro x1 S H locs ls hP hS hl h
      replace h : fX8_comeBack_2 (zfix (fun _ _ => none) fX8_comeBack_2 n2) x1 S = some o := h
      unfold fX8_comeBack_2 at h
      refine lv_iload_n hx hb dX8_comeBack_2 rfl (lv_at hl 1 rfl) ?_
      refine lv_bipush (v := 48) hx hb dX8_comeBack_3 rfl ?_
      refine z_icmp_ge (tgt := 26) hx hb dX8_comeBack_5 (by decide) h (fun h => ?_) (fun h => ?_)
      · exact z_vret hx hb hlocks hP hS hQ hr dX8_comeBack_26 h
      · refine lv_aload_n hx hb dX8_comeBack_8 rfl (lv_at hl 0 rfl) ?_
        refine z_get hx hb hU uU_X8 hown hK hP (p_101 hW) rfl rfl 1 (by decide) (hU _ uF_X8_7) rfl dX8_comeBack_9 ?_
        refine lv_iload_n hx hb dX8_comeBack_12 rfl (lv_at hl 1 rfl) ?_
        refine lv_aload_n hx hb dX8_comeBack_13 rfl (lv_at hl 0 rfl) ?_
        refine z_get hx hb hU uU_X8 hown hK hP (p_101 hW) rfl rfl 18 (by decide) (hU _ uF_X8_22) rfl dX8_comeBack_14 ?_
        refine lv_iload_n hx hb dX8_comeBack_17 rfl (lv_at hl 1 rfl) ?_
        refine z_iald hx hb hK hP (pA_106 hW) dX8_comeBack_18 h (fun h => ?_)
        refine z_iast hx hb hq hK hP hS (pA_102 hW) dX8_comeBack_19 h (fun S_1 H locs hP hS h => ?_)
        refine lv_iinc (v := (x1 + 1)) (lv' := [(1, .int (x1 + 1)), (0, .ref (q 101))]) hx hb dX8_comeBack_20 hl (k := 1) rfl rfl (by decide) rfl (fun ls hl => ?_)
        refine lv_goto (tgt := 2) hx hb dX8_comeBack_23 (by decide) ?_
        exact ih2 (x1 + 1) _ _ _ ls hP hS (lv_sub hl [1, 0] rfl) h
  refine lv_iconst (v := 0) hx hb dX8_comeBack_0 rfl ?_
  refine lv_istore_n (lv' := [(1, .int 0), (0, .ref (q 101))]) hx hb dX8_comeBack_1 rfl hl (by decide) rfl (fun ls hl => ?_)
  exact L2 zF 0 _ _ _ ls hP hS (lv_sub hl [1, 0] rfl) h

def fX8_isRegular (a1 : Int32) (a2 : Int32) (S : zT) : Option (Int32 × zT) :=
  (if a1 < 2 then some (0, S) else (if 8 < a1 then some (0, S) else (if a2 < 1 then some (0, S) else (if a1 ≤ a2 then some (0, S) else some (1, S)))))
abbrev rmX8_isRegular : Room := { frames := 0, cells := 0, slots := 0, locals := 0 }
theorem yd_X8_isRegular : yX8_isRegular.cls = RX8 ∧ yX8_isRegular.cls ≠ "java/lang/invoke/MethodHandle" ∧ yX8_isRegular.cls ≠ "java/lang/invoke/VarHandle" ∧ (parseMethodDescriptor yX8_isRegular.desc).map (fun d => d.parameters.length) = some 2 := by decide +kernel
set_option maxRecDepth 100000 in
set_option maxHeartbeats 4000000 in
theorem ctX8_isRegular {l : Launch} {dC : Nat → ClassId} {dI : Nat → Nat → Nat} {cI : ClassId × ClassId} {cW : List zSh} {q : Nat → Nat} (hq : zI cW q) (hW : zIs cI cW) {a1 : Int32} {a2 : Int32} {S : zT} {o : Int32 × zT} (h : fX8_isRegular a1 a2 S = some o) : zCi l dC dI cI cW q yX8_isRegular (Cond.code yX8_isRegular cX8_isRegular 3 (some .boolean) :: zU) rmX8_isRegular [.ref (q 101), .int a1, .int a2] S o := by
  refine zMet_i (lv := [(0, .ref (q 101)), (1, .int a1), (2, .int a2)]) (by decide) (Nat.le_of_ble_eq_true rfl) rfl ?_
  intro p e s m args below meth c Q hx hb hml hr hU hown hlocks hK hN hP hS ls hl hQ
  replace hown : s.vm.findClass RX8 = some m.cls := hown
  unfold fX8_isRegular at h
  refine lv_iload_n hx hb dX8_isRegular_0 rfl (lv_at hl 1 rfl) ?_
  refine lv_iconst (v := 2) hx hb dX8_isRegular_1 rfl ?_
  refine z_icmp_lt (tgt := 25) hx hb dX8_isRegular_2 (by decide) h (fun h => ?_) (fun h => ?_)
  · refine lv_iconst (v := 0) hx hb dX8_isRegular_25 rfl ?_
    exact z_zretC hx hb hlocks hP hS hQ hr dX8_isRegular_26 (Or.inl rfl) h
  · refine lv_iload_n hx hb dX8_isRegular_5 rfl (lv_at hl 1 rfl) ?_
    refine lv_bipush (v := 8) hx hb dX8_isRegular_6 rfl ?_
    refine z_icmp_gt (tgt := 25) hx hb dX8_isRegular_8 (by decide) h (fun h => ?_) (fun h => ?_)
    · refine lv_iconst (v := 0) hx hb dX8_isRegular_25 rfl ?_
      exact z_zretC hx hb hlocks hP hS hQ hr dX8_isRegular_26 (Or.inl rfl) h
    · refine lv_iload_n hx hb dX8_isRegular_11 rfl (lv_at hl 2 rfl) ?_
      refine lv_iconst (v := 1) hx hb dX8_isRegular_12 rfl ?_
      refine z_icmp_lt (tgt := 25) hx hb dX8_isRegular_13 (by decide) h (fun h => ?_) (fun h => ?_)
      · refine lv_iconst (v := 0) hx hb dX8_isRegular_25 rfl ?_
        exact z_zretC hx hb hlocks hP hS hQ hr dX8_isRegular_26 (Or.inl rfl) h
      · refine lv_iload_n hx hb dX8_isRegular_16 rfl (lv_at hl 2 rfl) ?_
        refine lv_iload_n hx hb dX8_isRegular_17 rfl (lv_at hl 1 rfl) ?_
        refine z_icmp_ge (tgt := 25) hx hb dX8_isRegular_18 (by decide) h (fun h => ?_) (fun h => ?_)
        · refine lv_iconst (v := 0) hx hb dX8_isRegular_25 rfl ?_
          exact z_zretC hx hb hlocks hP hS hQ hr dX8_isRegular_26 (Or.inl rfl) h
        · refine lv_iconst (v := 1) hx hb dX8_isRegular_21 rfl ?_
          refine lv_goto (tgt := 26) hx hb dX8_isRegular_22 (by decide) ?_
          exact z_zretC hx hb hlocks hP hS hQ hr dX8_isRegular_26 (Or.inr rfl) h

def fX8_rows_40 (k17 : Int32 → Int32 → Int32 → Int32 → zT → Option (Int32 × zT)) (x1 : Int32) (x3 : Int32) (x5 : Int32) (t0 : Int32) (S : zT) : Option (Int32 × zT) :=
  k17 x1 x3 t0 (x5 + 1) S
def fX8_rows_17 (rec : Int32 → Int32 → Int32 → Int32 → zT → Option (Int32 × zT)) (x1 : Int32) (x3 : Int32) (x4 : Int32) (x5 : Int32) (S : zT) : Option (Int32 × zT) :=
  (if x3 ≤ x5 then (if x4 ≤ 2500 then some (x4, S) else some ((-1), S)) else (if x4 ≤ 2500 then (fX8_rows_40 rec) x1 x3 x5 (x4 * x1) S else (fX8_rows_40 rec) x1 x3 x5 x4 S))
def fX8_rows (a1 : Int32) (a2 : Int32) (a3 : Int32) (S : zT) : Option (Int32 × zT) :=
  zbi (fX8_isRegular a1 a2 S) fun r_2 S_1 =>
  (if r_2 = 0 then some ((-1), S_1) else (zfix (fun _ _ _ _ _ => none) fX8_rows_17 zF) a1 a3 1 1 S_1)
abbrev rmX8_rows : Room := { frames := 1, cells := 0, slots := 0, locals := 22 }
theorem yd_X8_rows : yX8_rows.cls = RX8 ∧ yX8_rows.cls ≠ "java/lang/invoke/MethodHandle" ∧ yX8_rows.cls ≠ "java/lang/invoke/VarHandle" ∧ (parseMethodDescriptor yX8_rows.desc).map (fun d => d.parameters.length) = some 3 := by decide +kernel
set_option maxRecDepth 100000 in
set_option maxHeartbeats 4000000 in
theorem ctX8_rows {l : Launch} {dC : Nat → ClassId} {dI : Nat → Nat → Nat} {cI : ClassId × ClassId} {cW : List zSh} {q : Nat → Nat} (hq : zI cW q) (hW : zIs cI cW) {a1 : Int32} {a2 : Int32} {a3 : Int32} {S : zT} {o : Int32 × zT} (h : fX8_rows a1 a2 a3 S = some o) : zCi l dC dI cI cW q yX8_rows (Cond.code yX8_rows cX8_rows 6 (some .int) :: zU) rmX8_rows [.ref (q 101), .int a1, .int a2, .int a3] S o := by
  refine zMet_i (lv := [(0, .ref (q 101)), (1, .int a1), (2, .int a2), (3, .int a3)]) (by decide) (Nat.le_of_ble_eq_true rfl) rfl ?_
  intro p e s m args below meth c Q hx hb hml hr hU hown hlocks hK hN hP hS ls hl hQ
  replace hown : s.vm.findClass RX8 = some m.cls := hown
  unfold fX8_rows at h
  have L17 : ∀ (n17 : Nat) (x1 : Int32) (x3 : Int32) (x4 : Int32) (x5 : Int32) (S : zT) (H : Heap) (locs : List Loc) (ls : Array Slot), va_P (dC, dI) vwCl (zWd cI cW q S) H → va_S (zA cW q) s.heap H locs → lv_has ls 6 [(1, .int x1), (3, .int x3), (4, .int x4), (5, .int x5)] → (zfix (fun _ _ _ _ _ => none) fX8_rows_17 n17) x1 x3 x4 x5 S = some o → W p l e rmX8_rows s m args below meth c H locs 0 0 Q (F0 m 17 ls []) := by
    intro n17
    induction n17 with
    | zero => intro x1 x3 x4 x5 S H locs ls hP hS hl h; exact zno (show (none : Option (Int32 × zT)) = some o from h)
    | succ n17 ih17 =>
      intro x1 x3 x4 x5 S H locs ls hP hS hl h
      replace h : fX8_rows_17 (zfix (fun _ _ _ _ _ => none) fX8_rows_17 n17) x1 x3 x4 x5 S = some o := h
      unfold fX8_rows_17 at h
      have L40 : ∀ (x1 : Int32) (x3 : Int32) (x5 : Int32) (t0 : Int32) (S : zT) (H : Heap) (locs : List Loc) (ls : Array Slot), va_P (dC, dI) vwCl (zWd cI cW q S) H → va_S (zA cW q) s.heap H locs → lv_has ls 6 [(1, .int x1), (3, .int x3), (5, .int x5)] → (fX8_rows_40 (zfix (fun _ _ _ _ _ => none) fX8_rows_17 n17)) x1 x3 x5 t0 S = some o → W p l e rmX8_rows s m args below meth c H locs 0 0 Q (F0 m 40 ls [.int t0]) := by
        intro x1 x3 x5 t0 S H locs ls hP hS hl h
        unfold fX8_rows_40 at h
        refine lv_istore (lv' := [(4, .int t0), (1, .int x1), (3, .int x3), (5, .int x5)]) hx hb dX8_rows_40 hl (by decide) rfl (fun ls hl => ?_)
        refine lv_iinc (v := (x5 + 1)) (lv' := [(5, .int (x5 + 1)), (4, .int t0), (1, .int x1), (3, .int x3)]) hx hb dX8_rows_42 hl (k := 3) rfl rfl (by decide) rfl (fun ls hl => ?_)
        refine lv_goto (tgt := 17) hx hb dX8_rows_45 (by decide) ?_
        exact ih17 x1 x3 t0 (x5 + 1) _ _ _ ls hP hS (lv_sub hl [2, 3, 1, 0] rfl) h
      refine lv_iload hx hb dX8_rows_17 (lv_at hl 3 rfl) ?_
      refine lv_iload_n hx hb dX8_rows_19 rfl (lv_at hl 1 rfl) ?_
      refine z_icmp_ge (tgt := 48) hx hb dX8_rows_20 (by decide) h (fun h => ?_) (fun h => ?_)
      · refine lv_iload hx hb dX8_rows_48 (lv_at hl 2 rfl) ?_
        refine lv_sipush (v := 2500) hx hb dX8_rows_50 rfl ?_
        refine z_icmp_le (tgt := 60) hx hb dX8_rows_53 (by decide) h (fun h => ?_) (fun h => ?_)
        · refine lv_iload hx hb dX8_rows_60 (lv_at hl 2 rfl) ?_
          exact z_iret hx hb hlocks hP hS hQ hr dX8_rows_62 h
        · refine lv_iconst (v := (-1)) hx hb dX8_rows_56 rfl ?_
          refine lv_goto (tgt := 62) hx hb dX8_rows_57 (by decide) ?_
          exact z_iret hx hb hlocks hP hS hQ hr dX8_rows_62 h
      · refine lv_iload hx hb dX8_rows_23 (lv_at hl 2 rfl) ?_
        refine lv_sipush (v := 2500) hx hb dX8_rows_25 rfl ?_
        refine z_icmp_le (tgt := 36) hx hb dX8_rows_28 (by decide) h (fun h => ?_) (fun h => ?_)
        · refine lv_iload hx hb dX8_rows_36 (lv_at hl 2 rfl) ?_
          refine lv_iload_n hx hb dX8_rows_38 rfl (lv_at hl 0 rfl) ?_
          refine lv_imul hx hb dX8_rows_39 ?_
          exact L40 x1 x3 x5 (x4 * x1) _ _ _ ls hP hS (lv_sub hl [0, 1, 3] rfl) h
        · refine lv_iload hx hb dX8_rows_31 (lv_at hl 2 rfl) ?_
          refine lv_goto (tgt := 40) hx hb dX8_rows_33 (by decide) ?_
          exact L40 x1 x3 x5 x4 _ _ _ ls hP hS (lv_sub hl [0, 1, 3] rfl) h
  refine lv_aload_n hx hb dX8_rows_0 rfl (lv_at hl 0 rfl) ?_
  refine lv_iload_n hx hb dX8_rows_1 rfl (lv_at hl 1 rfl) ?_
  refine lv_iload_n hx hb dX8_rows_2 rfl (lv_at hl 2 rfl) ?_
  refine z_callV_i hx hb hml hown hU hK hN hP hS 2 (p_101 hW) rfl rfl (zU_V uL_X8_181 uI_X8_isRegular uS_X8_isRegular uN_X8 uC_X8_isRegular) yd_X8_isRegular ⟨rfl, rfl⟩ ⟨Nat.le_of_ble_eq_true rfl, Nat.le_of_ble_eq_true rfl⟩ (As := [.int a1, .int a2]) (fun o h9 => ctX8_isRegular hq hW h9) rfl hl.1 rfl (Nat.le_of_ble_eq_true rfl) dX8_rows_3 ⟨Nat.zero_le _, Nat.zero_le _⟩ h (fun r_2 S_1 H locs hP hS h => ?_)
  refine z_if_ne (tgt := 11) hx hb dX8_rows_6 (by decide) h (fun h => ?_) (fun h => ?_)
  · refine lv_iconst (v := 1) hx hb dX8_rows_11 rfl ?_
    refine lv_istore (lv' := [(4, .int 1), (0, .ref (q 101)), (1, .int a1), (2, .int a2), (3, .int a3)]) hx hb dX8_rows_12 hl (by decide) rfl (fun ls hl => ?_)
    refine lv_iconst (v := 1) hx hb dX8_rows_14 rfl ?_
    refine lv_istore (lv' := [(5, .int 1), (4, .int 1), (0, .ref (q 101)), (1, .int a1), (2, .int a2), (3, .int a3)]) hx hb dX8_rows_15 hl (by decide) rfl (fun ls hl => ?_)
    exact L17 zF a1 a3 1 1 _ _ _ ls hP hS (lv_sub hl [3, 5, 1, 0] rfl) h
  · refine lv_iconst (v := (-1)) hx hb dX8_rows_9 rfl ?_
    exact z_iret hx hb hlocks hP hS hQ hr dX8_rows_10 h

def fX8_offsets_12 (rec : Int32 → Int32 → Int32 → zT → Option zT) (x1 : Int32) (x3 : Int32) (x4 : Int32) (S : zT) : Option zT :=
  (if x4 ≤ 0 then zlet (zsi S 107 0 0) fun S_1 =>
  some S_1 else if ¬ x1 = 0 then if ¬ (x4 < 0 ∨ 8 ≤ x4.toNatClampNeg) then zlet (zsi S 107 x4.toNatClampNeg (x3 - x3 / x1 * x1)) (fun S_2 =>
  if ¬ x1 = 0 then rec x1 (x3 / x1) (x4 + (-1)) S_2 else none) else none else none)
def fX8_offsets (a1 : Int32) (a2 : Int32) (S : zT) : Option zT :=
  (zfix (fun _ _ _ _ => none) fX8_offsets_12 zF) a1 a2 ((S.1 102 0) - 1) S
abbrev rmX8_offsets : Room := { frames := 0, cells := 0, slots := 0, locals := 0 }
theorem yd_X8_offsets : yX8_offsets.cls = RX8 ∧ yX8_offsets.cls ≠ "java/lang/invoke/MethodHandle" ∧ yX8_offsets.cls ≠ "java/lang/invoke/VarHandle" ∧ (parseMethodDescriptor yX8_offsets.desc).map (fun d => d.parameters.length) = some 2 := by decide +kernel
set_option maxRecDepth 100000 in
set_option maxHeartbeats 4000000 in
theorem ctX8_offsets {l : Launch} {dC : Nat → ClassId} {dI : Nat → Nat → Nat} {cI : ClassId × ClassId} {cW : List zSh} {q : Nat → Nat} (hq : zI cW q) (hW : zIs cI cW) {a1 : Int32} {a2 : Int32} {S : zT} {o : zT} (h : fX8_offsets a1 a2 S = some o) : zCv l dC dI cI cW q yX8_offsets (Cond.code yX8_offsets cX8_offsets 5 none :: zU) rmX8_offsets [.ref (q 101), .int a1, .int a2] S o := by
  refine zMet_v (lv := [(0, .ref (q 101)), (1, .int a1), (2, .int a2)]) (by decide) (Nat.le_of_ble_eq_true rfl) rfl ?_
  intro p e s m args below meth c Q hx hb hml hr hU hown hlocks hK hN hP hS ls hl hQ
  replace hown : s.vm.findClass RX8 = some m.cls := hown
  unfold fX8_offsets at h
  have L12 : ∀ (n12 : Nat) (x1 : Int32) (x3 : Int32) (x4 : Int32) (S : zT) (H : Heap) (locs : List Loc) (ls : Array Slot), va_P (dC, dI) vwCl (zWd cI cW q S) H → va_S (zA cW q) s.heap H locs → lv_has ls 5 [(0, .ref (q 101)), (1, .int x1), (3, .int x3), (4, .int x4)] → (zfix (fun _ _ _ _ => none) fX8_offsets_12 n12) x1 x3 x4 S = some o → W p l e rmX8_offsets s m args below meth c H locs 0 0 Q (F0 m 12 ls []) := by
    intro n12
    induction n12 with
    | zero => intro x1 x3 x4 S H locs ls hP hS hl h; exact zno (show (none : Option zT) = some o from h)
    | succ n12 ih12 =>
      intro x1 x3 x4 S H locs ls hP hS hl h
      replace h : fX8_offsets_12 (zfix (fun _ _ _ _ => none) fX8_offsets_12 n12) x1 x3 x4 S = some o := h
      unfold fX8_offsets_12 at h
      refine lv_iload hx hb dX8_offsets_12 (lv_at hl 3 rfl) ?_
      refine z_if_le (tgt := 37) hx hb dX8_offsets_14 (by decide) h (fun h => ?_) (fun h => ?_)
      · refine lv_aload_n hx hb dX8_offsets_37 rfl (lv_at hl 0 rfl) ?_
        refine z_get hx hb hU uU_X8 hown hK hP (p_101 hW) rfl rfl 19 (by decide) (hU _ uF_X8_25) rfl dX8_offsets_38 ?_
        refine lv_iconst (v := 0) hx hb dX8_offsets_41 rfl ?_
        refine lv_iconst (v := 0) hx hb dX8_offsets_42 rfl ?_
        refine z_iastC (j := 0) hx hb hq hK hP hS (pA_107 hW) dX8_offsets_43 rfl (by decide) h (fun S_1 H locs hP hS h => ?_)
        exact z_vret hx hb hlocks hP hS hQ hr dX8_offsets_44 h
      · refine lv_aload_n hx hb dX8_offsets_17 rfl (lv_at hl 0 rfl) ?_
        refine z_get hx hb hU uU_X8 hown hK hP (p_101 hW) rfl rfl 19 (by decide) (hU _ uF_X8_25) rfl dX8_offsets_18 ?_
        refine lv_iload hx hb dX8_offsets_21 (lv_at hl 3 rfl) ?_
        refine lv_iload_n hx hb dX8_offsets_23 rfl (lv_at hl 2 rfl) ?_
        refine lv_iload_n hx hb dX8_offsets_24 rfl (lv_at hl 1 rfl) ?_
        refine z_irem hx hb dX8_offsets_25 h (fun h => ?_)
        refine z_iast hx hb hq hK hP hS (pA_107 hW) dX8_offsets_26 h (fun S_2 H locs hP hS h => ?_)
        refine lv_iload_n hx hb dX8_offsets_27 rfl (lv_at hl 2 rfl) ?_
        refine lv_iload_n hx hb dX8_offsets_28 rfl (lv_at hl 1 rfl) ?_
        refine z_idiv hx hb dX8_offsets_29 h (fun h => ?_)
        refine lv_istore_n (lv' := [(3, .int (x3 / x1)), (0, .ref (q 101)), (1, .int x1), (4, .int x4)]) hx hb dX8_offsets_30 rfl hl (by decide) rfl (fun ls hl => ?_)
        refine lv_iinc (v := (x4 + (-1))) (lv' := [(4, .int (x4 + (-1))), (3, .int (x3 / x1)), (0, .ref (q 101)), (1, .int x1)]) hx hb dX8_offsets_31 hl (k := 3) rfl rfl (by decide) rfl (fun ls hl => ?_)
        refine lv_goto (tgt := 12) hx hb dX8_offsets_34 (by decide) ?_
        exact ih12 x1 (x3 / x1) (x4 + (-1)) _ _ _ ls hP hS (lv_sub hl [2, 3, 1, 0] rfl) h
  refine lv_iload_n hx hb dX8_offsets_0 rfl (lv_at hl 2 rfl) ?_
  refine lv_istore_n (lv' := [(3, .int a2), (0, .ref (q 101)), (1, .int a1), (2, .int a2)]) hx hb dX8_offsets_1 rfl hl (by decide) rfl (fun ls hl => ?_)
  refine lv_aload_n hx hb dX8_offsets_2 rfl (lv_at hl 1 rfl) ?_
  refine z_get hx hb hU uU_X8 hown hK hP (p_101 hW) rfl rfl 1 (by decide) (hU _ uF_X8_7) rfl dX8_offsets_3 ?_
  refine lv_iconst (v := 0) hx hb dX8_offsets_6 rfl ?_
  refine z_ialdC (j := 0) hx hb hK hP (pA_102 hW) dX8_offsets_7 rfl (by decide) ?_
  refine lv_iconst (v := 1) hx hb dX8_offsets_8 rfl ?_
  refine lv_isub hx hb dX8_offsets_9 ?_
  refine lv_istore (lv' := [(4, .int ((S.1 102 0) - 1)), (3, .int a2), (0, .ref (q 101)), (1, .int a1), (2, .int a2)]) hx hb dX8_offsets_10 hl (by decide) rfl (fun ls hl => ?_)
  exact L12 zF a1 a2 ((S.1 102 0) - 1) _ _ _ ls hP hS (lv_sub hl [2, 3, 1, 0] rfl) h

