def fX2_put (b n : Nat) (a1 : Int32) (a2 : Int32) (S : zT) : Option zT :=
  (if a1 < 0 then some S else (if (nI n) ≤ a1 then some S else if ¬ (a1 < 0 ∨ n ≤ a1.toNatClampNeg) then zlet (zsi S (b + 1) a1.toNatClampNeg a2) (fun S_1 =>
  some S_1) else none))
abbrev rmX2_put : Room := { frames := 0, cells := 0, slots := 0, locals := 0 }
theorem yd_X2_put : yX2_put.cls = RX2 ∧ yX2_put.cls ≠ "java/lang/invoke/MethodHandle" ∧ yX2_put.cls ≠ "java/lang/invoke/VarHandle" ∧ (parseMethodDescriptor yX2_put.desc).map (fun d => d.parameters.length) = some 2 := by decide +kernel
set_option maxRecDepth 100000 in
set_option maxHeartbeats 4000000 in
theorem ctX2_put {l : Launch} {dC : Nat → ClassId} {dI : Nat → Nat → Nat} {cI : ClassId × ClassId} {cW : List zSh} {q : Nat → Nat} (hq : zI cW q) {b : Nat} {n : Nat} (hb0 : isRow cI cW b n) {a1 : Int32} {a2 : Int32} {S : zT} {o : zT} (h : fX2_put b n a1 a2 S = some o) : zCv l dC dI cI cW q yX2_put (Cond.code yX2_put cX2_put 3 none :: zU) rmX2_put [.ref (q b), .int a1, .int a2] S o := by
  refine zMet_v (lv := [(0, .ref (q b)), (1, .int a1), (2, .int a2)]) (by decide) (Nat.le_of_ble_eq_true rfl) rfl ?_
  intro p e s m args below meth c Q hx hb hml hr hU hown hlocks hK hN hP hS ls hl hQ
  replace hown : s.vm.findClass RX2 = some m.cls := hown
  unfold fX2_put at h
  refine lv_iload_n hx hb dX2_put_0 rfl (lv_at hl 1 rfl) ?_
  refine z_if_lt (tgt := 20) hx hb dX2_put_1 (by decide) h (fun h => ?_) (fun h => ?_)
  · exact z_vret hx hb hlocks hP hS hQ hr dX2_put_20 h
  · refine lv_iload_n hx hb dX2_put_4 rfl (lv_at hl 1 rfl) ?_
    refine lv_aload_n hx hb dX2_put_5 rfl (lv_at hl 0 rfl) ?_
    refine z_get hx hb hU uU_X2 hown hK hP hb0.1 rfl rfl 0 (by decide) (hU _ uF_X2_13) rfl dX2_put_6 ?_
    refine z_alen hx hb hK hP hb0.2 dX2_put_9 ?_
    refine z_icmp_ge (tgt := 20) hx hb dX2_put_10 (by decide) h (fun h => ?_) (fun h => ?_)
    · exact z_vret hx hb hlocks hP hS hQ hr dX2_put_20 h
    · refine lv_aload_n hx hb dX2_put_13 rfl (lv_at hl 0 rfl) ?_
      refine z_get hx hb hU uU_X2 hown hK hP hb0.1 rfl rfl 0 (by decide) (hU _ uF_X2_13) rfl dX2_put_14 ?_
      refine lv_iload_n hx hb dX2_put_17 rfl (lv_at hl 1 rfl) ?_
      refine lv_iload_n hx hb dX2_put_18 rfl (lv_at hl 2 rfl) ?_
      refine z_iast hx hb hq hK hP hS hb0.2 dX2_put_19 h (fun S_1 H locs hP hS h => ?_)
      exact z_vret hx hb hlocks hP hS hQ hr dX2_put_20 h

def fX6_fullSet (b : Nat) (S : zT) : Option (Int32 × zT) :=
  some (((zshl 1 (S.1 b 0)) - 1), S)
abbrev rmX6_fullSet : Room := { frames := 0, cells := 0, slots := 0, locals := 0 }
theorem yd_X6_fullSet : yX6_fullSet.cls = RX6 ∧ yX6_fullSet.cls ≠ "java/lang/invoke/MethodHandle" ∧ yX6_fullSet.cls ≠ "java/lang/invoke/VarHandle" ∧ (parseMethodDescriptor yX6_fullSet.desc).map (fun d => d.parameters.length) = some 0 := by decide +kernel
set_option maxRecDepth 100000 in
set_option maxHeartbeats 4000000 in
theorem ctX6_fullSet {l : Launch} {dC : Nat → ClassId} {dI : Nat → Nat → Nat} {cI : ClassId × ClassId} {cW : List zSh} {q : Nat → Nat} (hq : zI cW q) {b : Nat} (hb0 : isWk cI cW b) {S : zT} {o : Int32 × zT} (h : fX6_fullSet b S = some o) : zCi l dC dI cI cW q yX6_fullSet (Cond.code yX6_fullSet cX6_fullSet 1 (some .int) :: zU) rmX6_fullSet [.ref (q b)] S o := by
  refine zMet_i (lv := [(0, .ref (q b))]) (by decide) (Nat.le_of_ble_eq_true rfl) rfl ?_
  intro p e s m args below meth c Q hx hb hml hr hU hown hlocks hK hN hP hS ls hl hQ
  replace hown : s.vm.findClass RX6 = some m.cls := hown
  unfold fX6_fullSet at h
  refine lv_iconst (v := 1) hx hb dX6_fullSet_0 rfl ?_
  refine lv_aload_n hx hb dX6_fullSet_1 rfl (lv_at hl 0 rfl) ?_
  refine z_get hx hb hU uU_X6 hown hK hP hb0.1 rfl rfl 0 (by decide) (hU _ uF_X6_26) rfl dX6_fullSet_2 ?_
  refine lv_ishl hx hb dX6_fullSet_5 ?_
  refine lv_iconst (v := 1) hx hb dX6_fullSet_6 rfl ?_
  refine lv_isub hx hb dX6_fullSet_7 ?_
  exact z_iret hx hb hlocks hP hS hQ hr dX6_fullSet_8 h

def fX6_makeAnew_37 (b : Nat) (k12 : Int32 → Int32 → zT → Option zT) (x1 : Int32) (x3 : Int32) (t0 : Int32) (t1 : Int32) (S : zT) : Option zT :=
  zbv (fX2_put (b + 1) 8 t1 t0 S) fun S_1 =>
  zbv (fX2_put (b + 3) 8 x3 (4 * (zshr x3 1)) S_1) fun S_2 =>
  k12 x1 (x3 + 1) S_2
def fX6_makeAnew_12 (b : Nat) (rec : Int32 → Int32 → zT → Option zT) (x1 : Int32) (x3 : Int32) (S : zT) : Option zT :=
  (if (S.1 b 0) ≤ x3 then zlet (zsi S b 2 0) fun S_3 =>
  zlet (zsi S_3 b 3 (2 * ((zshr (x1 + 1) 1) - 1))) fun S_4 =>
  zlet (zsi S_4 b 4 0) fun S_5 =>
  zlet (zsi S_5 b 5 10) fun S_6 =>
  zlet (zsi S_6 b 6 1) fun S_7 =>
  zbi (fX6_fullSet b S_7) fun r_9 S_8 =>
  zbv (fX2_put (b + 5) 16 0 r_9 S_8) fun S_10 =>
  some S_10 else (if (x3 &&& 1) = 0 then (fX6_makeAnew_37 b rec) x1 x3 (-3) x3 S else (fX6_makeAnew_37 b rec) x1 x3 3 x3 S))
def fX6_makeAnew (b : Nat) (a1 : Int32) (a2 : Int32) (S : zT) : Option zT :=
  zlet (zsi S b 0 a1) fun S_11 =>
  zlet (zsi S_11 b 1 a2) fun S_12 =>
  (zfix (fun _ _ _ => none) (fX6_makeAnew_12 b) zF) a1 0 S_12
abbrev rmX6_makeAnew : Room := { frames := 1, cells := 0, slots := 0, locals := 22 }
theorem yd_X6_makeAnew : yX6_makeAnew.cls = RX6 ∧ yX6_makeAnew.cls ≠ "java/lang/invoke/MethodHandle" ∧ yX6_makeAnew.cls ≠ "java/lang/invoke/VarHandle" ∧ (parseMethodDescriptor yX6_makeAnew.desc).map (fun d => d.parameters.length) = some 2 := by decide +kernel
set_option maxRecDepth 100000 in
set_option maxHeartbeats 4000000 in
theorem ctX6_makeAnew {l : Launch} {dC : Nat → ClassId} {dI : Nat → Nat → Nat} {cI : ClassId × ClassId} {cW : List zSh} {q : Nat → Nat} (hq : zI cW q) {b : Nat} (hb0 : isWk cI cW b) {a1 : Int32} {a2 : Int32} {S : zT} {o : zT} (h : fX6_makeAnew b a1 a2 S = some o) : zCv l dC dI cI cW q yX6_makeAnew (Cond.code yX6_makeAnew cX6_makeAnew 4 none :: zU) rmX6_makeAnew [.ref (q b), .int a1, .int a2] S o := by
  refine zMet_v (lv := [(0, .ref (q b)), (1, .int a1), (2, .int a2)]) (by decide) (Nat.le_of_ble_eq_true rfl) rfl ?_
  intro p e s m args below meth c Q hx hb hml hr hU hown hlocks hK hN hP hS ls hl hQ
  replace hown : s.vm.findClass RX6 = some m.cls := hown
  unfold fX6_makeAnew at h
  have L12 : ∀ (n12 : Nat) (x1 : Int32) (x3 : Int32) (S : zT) (H : Heap) (locs : List Loc) (ls : Array Slot), va_P (dC, dI) vwCl (zWd cI cW q S) H → va_S (zA cW q) s.heap H locs → lv_has ls 4 [(0, .ref (q b)), (1, .int x1), (3, .int x3)] → (zfix (fun _ _ _ => none) (fX6_makeAnew_12 b) n12) x1 x3 S = some o → W p l e rmX6_makeAnew s m args below meth c H locs 0 0 Q (F0 m 12 ls []) := by
    intro n12
    induction n12 with
    | zero => intro x1 x3 S H locs ls hP hS hl h; exact zno (show (none : Option zT) = some o from h)
    | succ n12 ih12 =>
      intro x1 x3 S H locs ls hP hS hl h
      replace h : fX6_makeAnew_12 b (zfix (fun _ _ _ => none) (fX6_makeAnew_12 b) n12) x1 x3 S = some o := h
      unfold fX6_makeAnew_12 at h
      have L37 : ∀ (x1 : Int32) (x3 : Int32) (t0 : Int32) (t1 : Int32) (S : zT) (H : Heap) (locs : List Loc) (ls : Array Slot), va_P (dC, dI) vwCl (zWd cI cW q S) H → va_S (zA cW q) s.heap H locs → lv_has ls 4 [(0, .ref (q b)), (1, .int x1), (3, .int x3)] → (fX6_makeAnew_37 b (zfix (fun _ _ _ => none) (fX6_makeAnew_12 b) n12)) x1 x3 t0 t1 S = some o → W p l e rmX6_makeAnew s m args below meth c H locs 0 0 Q (F0 m 37 ls [.int t0, .int t1, .ref (q (b + 1))]) := by
        intro x1 x3 t0 t1 S H locs ls hP hS hl h
        unfold fX6_makeAnew_37 at h
        refine z_callV_v hx hb hml hown hU hK hN hP hS 2 hb0.2.1.1 rfl rfl (zU_V uL_X6_33 uI_X2_put uS_X2_put uN_X2 uC_X2_put) yd_X2_put ⟨rfl, rfl⟩ ⟨Nat.le_of_ble_eq_true rfl, Nat.le_of_ble_eq_true rfl⟩ (As := [.int t1, .int t0]) (fun o h9 => ctX2_put hq hb0.2.1 h9) rfl hl.1 rfl (Nat.le_of_ble_eq_true rfl) dX6_makeAnew_37 ⟨Nat.zero_le _, Nat.zero_le _⟩ h (fun S_1 H locs hP hS h => ?_)
        refine lv_aload_n hx hb dX6_makeAnew_40 rfl (lv_at hl 0 rfl) ?_
        refine z_get hx hb hU uU_X6 hown hK hP hb0.1 rfl rfl 8 (by decide) (hU _ uF_X6_20) rfl dX6_makeAnew_41 ?_
        refine lv_iload_n hx hb dX6_makeAnew_44 rfl (lv_at hl 2 rfl) ?_
        refine lv_iconst (v := 4) hx hb dX6_makeAnew_45 rfl ?_
        refine lv_iload_n hx hb dX6_makeAnew_46 rfl (lv_at hl 2 rfl) ?_
        refine lv_iconst (v := 1) hx hb dX6_makeAnew_47 rfl ?_
        refine lv_ishr hx hb dX6_makeAnew_48 ?_
        refine lv_imul hx hb dX6_makeAnew_49 ?_
        refine z_callV_v hx hb hml hown hU hK hN hP hS 2 hb0.2.2.1.1 rfl rfl (zU_V uL_X6_33 uI_X2_put uS_X2_put uN_X2 uC_X2_put) yd_X2_put ⟨rfl, rfl⟩ ⟨Nat.le_of_ble_eq_true rfl, Nat.le_of_ble_eq_true rfl⟩ (As := [.int x3, .int (4 * (zshr x3 1))]) (fun o h9 => ctX2_put hq hb0.2.2.1 h9) rfl hl.1 rfl (Nat.le_of_ble_eq_true rfl) dX6_makeAnew_50 ⟨Nat.zero_le _, Nat.zero_le _⟩ h (fun S_2 H locs hP hS h => ?_)
        refine lv_iinc (v := (x3 + 1)) (lv' := [(3, .int (x3 + 1)), (0, .ref (q b)), (1, .int x1)]) hx hb dX6_makeAnew_53 hl (k := 2) rfl rfl (by decide) rfl (fun ls hl => ?_)
        refine lv_goto (tgt := 12) hx hb dX6_makeAnew_56 (by decide) ?_
        exact ih12 x1 (x3 + 1) _ _ _ ls hP hS (lv_sub hl [1, 2, 0] rfl) h
      refine lv_iload_n hx hb dX6_makeAnew_12 rfl (lv_at hl 2 rfl) ?_
      refine lv_aload_n hx hb dX6_makeAnew_13 rfl (lv_at hl 0 rfl) ?_
      refine z_get hx hb hU uU_X6 hown hK hP hb0.1 rfl rfl 0 (by decide) (hU _ uF_X6_26) rfl dX6_makeAnew_14 ?_
      refine z_icmp_ge (tgt := 59) hx hb dX6_makeAnew_17 (by decide) h (fun h => ?_) (fun h => ?_)
      · refine lv_aload_n hx hb dX6_makeAnew_59 rfl (lv_at hl 0 rfl) ?_
        refine lv_iconst (v := 0) hx hb dX6_makeAnew_60 rfl ?_
        refine z_puti hx hb hU uU_X6 tyX6 tyX6_ok nmX6 hown hq hK hP hS hb0.1 rfl rfl 2 (by decide) (hU _ uF_X6_37) rfl rfl rfl (Nat.le_of_ble_eq_true rfl) rfl dX6_makeAnew_61 h (fun S_3 H locs hP hS h => ?_)
        refine lv_aload_n hx hb dX6_makeAnew_64 rfl (lv_at hl 0 rfl) ?_
        refine lv_iconst (v := 2) hx hb dX6_makeAnew_65 rfl ?_
        refine lv_iload_n hx hb dX6_makeAnew_66 rfl (lv_at hl 1 rfl) ?_
        refine lv_iconst (v := 1) hx hb dX6_makeAnew_67 rfl ?_
        refine lv_iadd hx hb dX6_makeAnew_68 ?_
        refine lv_iconst (v := 1) hx hb dX6_makeAnew_69 rfl ?_
        refine lv_ishr hx hb dX6_makeAnew_70 ?_
        refine lv_iconst (v := 1) hx hb dX6_makeAnew_71 rfl ?_
        refine lv_isub hx hb dX6_makeAnew_72 ?_
        refine lv_imul hx hb dX6_makeAnew_73 ?_
        refine z_puti hx hb hU uU_X6 tyX6 tyX6_ok nmX6 hown hq hK hP hS hb0.1 rfl rfl 3 (by decide) (hU _ uF_X6_40) rfl rfl rfl (Nat.le_of_ble_eq_true rfl) rfl dX6_makeAnew_74 h (fun S_4 H locs hP hS h => ?_)
        refine lv_aload_n hx hb dX6_makeAnew_77 rfl (lv_at hl 0 rfl) ?_
        refine lv_iconst (v := 0) hx hb dX6_makeAnew_78 rfl ?_
        refine z_puti hx hb hU uU_X6 tyX6 tyX6_ok nmX6 hown hq hK hP hS hb0.1 rfl rfl 4 (by decide) (hU _ uF_X6_43) rfl rfl rfl (Nat.le_of_ble_eq_true rfl) rfl dX6_makeAnew_79 h (fun S_5 H locs hP hS h => ?_)
        refine lv_aload_n hx hb dX6_makeAnew_82 rfl (lv_at hl 0 rfl) ?_
        refine lv_bipush (v := 10) hx hb dX6_makeAnew_83 rfl ?_
        refine z_puti hx hb hU uU_X6 tyX6 tyX6_ok nmX6 hown hq hK hP hS hb0.1 rfl rfl 5 (by decide) (hU _ uF_X6_46) rfl rfl rfl (Nat.le_of_ble_eq_true rfl) rfl dX6_makeAnew_85 h (fun S_6 H locs hP hS h => ?_)
        refine lv_aload_n hx hb dX6_makeAnew_88 rfl (lv_at hl 0 rfl) ?_
        refine lv_iconst (v := 1) hx hb dX6_makeAnew_89 rfl ?_
        refine z_puti hx hb hU uU_X6 tyX6 tyX6_ok nmX6 hown hq hK hP hS hb0.1 rfl rfl 6 (by decide) (hU _ uF_X6_49) rfl rfl rfl (Nat.le_of_ble_eq_true rfl) rfl dX6_makeAnew_90 h (fun S_7 H locs hP hS h => ?_)
        refine lv_aload_n hx hb dX6_makeAnew_93 rfl (lv_at hl 0 rfl) ?_
        refine z_get hx hb hU uU_X6 hown hK hP hb0.1 rfl rfl 9 (by decide) (hU _ uF_X6_23) rfl dX6_makeAnew_94 ?_
        refine lv_iconst (v := 0) hx hb dX6_makeAnew_97 rfl ?_
        refine lv_aload_n hx hb dX6_makeAnew_98 rfl (lv_at hl 0 rfl) ?_
        refine z_callV_i hx hb hml hown hU hK hN hP hS 0 hb0.1 rfl rfl (zU_V uL_X6_52 uI_X6_fullSet uS_X6_fullSet uN_X6 uC_X6_fullSet) yd_X6_fullSet ⟨rfl, rfl⟩ ⟨Nat.le_of_ble_eq_true rfl, Nat.le_of_ble_eq_true rfl⟩ (As := []) (fun o h9 => ctX6_fullSet hq hb0 h9) rfl hl.1 rfl (Nat.le_of_ble_eq_true rfl) dX6_makeAnew_99 ⟨Nat.zero_le _, Nat.zero_le _⟩ h (fun r_9 S_8 H locs hP hS h => ?_)
        refine z_callV_v hx hb hml hown hU hK hN hP hS 2 hb0.2.2.2.1 rfl rfl (zU_V uL_X6_33 uI_X2_put uS_X2_put uN_X2 uC_X2_put) yd_X2_put ⟨rfl, rfl⟩ ⟨Nat.le_of_ble_eq_true rfl, Nat.le_of_ble_eq_true rfl⟩ (As := [.int 0, .int r_9]) (fun o h9 => ctX2_put hq hb0.2.2.2 h9) rfl hl.1 rfl (Nat.le_of_ble_eq_true rfl) dX6_makeAnew_102 ⟨Nat.zero_le _, Nat.zero_le _⟩ h (fun S_10 H locs hP hS h => ?_)
        exact z_vret hx hb hlocks hP hS hQ hr dX6_makeAnew_105 h
      · refine lv_aload_n hx hb dX6_makeAnew_20 rfl (lv_at hl 0 rfl) ?_
        refine z_get hx hb hU uU_X6 hown hK hP hb0.1 rfl rfl 7 (by decide) (hU _ uF_X6_14) rfl dX6_makeAnew_21 ?_
        refine lv_iload_n hx hb dX6_makeAnew_24 rfl (lv_at hl 2 rfl) ?_
        refine lv_iload_n hx hb dX6_makeAnew_25 rfl (lv_at hl 2 rfl) ?_
        refine lv_iconst (v := 1) hx hb dX6_makeAnew_26 rfl ?_
        refine lv_iand hx hb dX6_makeAnew_27 ?_
        refine z_if_ne (tgt := 36) hx hb dX6_makeAnew_28 (by decide) h (fun h => ?_) (fun h => ?_)
        · refine lv_iconst (v := 3) hx hb dX6_makeAnew_36 rfl ?_
          exact L37 x1 x3 3 x3 _ _ _ ls hP hS (lv_sub hl [0, 1, 2] rfl) h
        · refine lv_bipush (v := (-3)) hx hb dX6_makeAnew_31 rfl ?_
          refine lv_goto (tgt := 37) hx hb dX6_makeAnew_33 (by decide) ?_
          exact L37 x1 x3 (-3) x3 _ _ _ ls hP hS (lv_sub hl [0, 1, 2] rfl) h
  refine lv_aload_n hx hb dX6_makeAnew_0 rfl (lv_at hl 0 rfl) ?_
  refine lv_iload_n hx hb dX6_makeAnew_1 rfl (lv_at hl 1 rfl) ?_
  refine z_puti hx hb hU uU_X6 tyX6 tyX6_ok nmX6 hown hq hK hP hS hb0.1 rfl rfl 0 (by decide) (hU _ uF_X6_26) rfl rfl rfl (Nat.le_of_ble_eq_true rfl) rfl dX6_makeAnew_2 h (fun S_11 H locs hP hS h => ?_)
  refine lv_aload_n hx hb dX6_makeAnew_5 rfl (lv_at hl 0 rfl) ?_
  refine lv_iload_n hx hb dX6_makeAnew_6 rfl (lv_at hl 2 rfl) ?_
  refine z_puti hx hb hU uU_X6 tyX6 tyX6_ok nmX6 hown hq hK hP hS hb0.1 rfl rfl 1 (by decide) (hU _ uF_X6_30) rfl rfl rfl (Nat.le_of_ble_eq_true rfl) rfl dX6_makeAnew_7 h (fun S_12 H locs hP hS h => ?_)
  refine lv_iconst (v := 0) hx hb dX6_makeAnew_10 rfl ?_
  refine lv_istore_n (lv' := [(3, .int 0), (0, .ref (q b)), (1, .int a1), (2, .int a2)]) hx hb dX6_makeAnew_11 rfl hl (by decide) rfl (fun ls hl => ?_)
  exact L12 zF a1 0 _ _ _ ls hP hS (lv_sub hl [1, 2, 0] rfl) h

def fX7_isWithin (a0 : Int32) (a1 : Int32) (a2 : Int32) (S : zT) : Option (Int32 × zT) :=
  (if a0 < a1 then some (0, S) else (if a2 < a0 then some (0, S) else some (1, S)))
abbrev rmX7_isWithin : Room := { frames := 0, cells := 0, slots := 0, locals := 0 }
theorem yd_X7_isWithin : yX7_isWithin.cls ≠ "java/lang/invoke/MethodHandle" ∧ yX7_isWithin.cls ≠ "java/lang/invoke/VarHandle" ∧ (parseMethodDescriptor yX7_isWithin.desc).map (fun d => d.parameters.length) = some 3 := by decide +kernel
set_option maxRecDepth 100000 in
set_option maxHeartbeats 4000000 in
theorem ctX7_isWithin {l : Launch} {dC : Nat → ClassId} {dI : Nat → Nat → Nat} {cI : ClassId × ClassId} {cW : List zSh} {q : Nat → Nat} (hq : zI cW q) {a0 : Int32} {a1 : Int32} {a2 : Int32} {S : zT} {o : Int32 × zT} (h : fX7_isWithin a0 a1 a2 S = some o) : zCi l dC dI cI cW q yX7_isWithin (Cond.code yX7_isWithin cX7_isWithin 3 (some .boolean) :: zU) rmX7_isWithin [.int a0, .int a1, .int a2] S o := by
  refine zMet_i (lv := [(0, .int a0), (1, .int a1), (2, .int a2)]) (by decide) (Nat.le_of_ble_eq_true rfl) rfl ?_
  intro p e s m args below meth c Q hx hb hml hr hU hown hlocks hK hN hP hS ls hl hQ
  replace hown : s.vm.findClass RX7 = some m.cls := hown
  unfold fX7_isWithin at h
  refine lv_iload_n hx hb dX7_isWithin_0 rfl (lv_at hl 0 rfl) ?_
  refine lv_iload_n hx hb dX7_isWithin_1 rfl (lv_at hl 1 rfl) ?_
  refine z_icmp_lt (tgt := 14) hx hb dX7_isWithin_2 (by decide) h (fun h => ?_) (fun h => ?_)
  · refine lv_iconst (v := 0) hx hb dX7_isWithin_14 rfl ?_
    exact z_zretC hx hb hlocks hP hS hQ hr dX7_isWithin_15 (Or.inl rfl) h
  · refine lv_iload_n hx hb dX7_isWithin_5 rfl (lv_at hl 0 rfl) ?_
    refine lv_iload_n hx hb dX7_isWithin_6 rfl (lv_at hl 2 rfl) ?_
    refine z_icmp_gt (tgt := 14) hx hb dX7_isWithin_7 (by decide) h (fun h => ?_) (fun h => ?_)
    · refine lv_iconst (v := 0) hx hb dX7_isWithin_14 rfl ?_
      exact z_zretC hx hb hlocks hP hS hQ hr dX7_isWithin_15 (Or.inl rfl) h
    · refine lv_iconst (v := 1) hx hb dX7_isWithin_10 rfl ?_
      refine lv_goto (tgt := 15) hx hb dX7_isWithin_11 (by decide) ?_
      exact z_zretC hx hb hlocks hP hS hQ hr dX7_isWithin_15 (Or.inr rfl) h

def fX0_stateAt (a1 : Int32) (S : zT) : Option (Option Nat × zT) :=
  (if a1 < 0 then some (none, S) else (if (nI 8) ≤ a1 then some (none, S) else if ¬ (a1 < 0 ∨ 8 ≤ a1.toNatClampNeg) then some (some (10 + 7 * a1.toNatClampNeg), S) else none))
abbrev rmX0_stateAt : Room := { frames := 0, cells := 0, slots := 0, locals := 0 }
theorem yd_X0_stateAt : yX0_stateAt.cls = RX0 ∧ yX0_stateAt.cls ≠ "java/lang/invoke/MethodHandle" ∧ yX0_stateAt.cls ≠ "java/lang/invoke/VarHandle" ∧ (parseMethodDescriptor yX0_stateAt.desc).map (fun d => d.parameters.length) = some 1 := by decide +kernel
set_option maxRecDepth 100000 in
set_option maxHeartbeats 4000000 in
theorem ctX0_stateAt {l : Launch} {dC : Nat → ClassId} {dI : Nat → Nat → Nat} {cI : ClassId × ClassId} {cW : List zSh} {q : Nat → Nat} (hq : zI cW q) (hW : zIs cI cW) {a1 : Int32} {S : zT} {o : Option Nat × zT} (h : fX0_stateAt a1 S = some o) : zCw l dC dI cI cW q yX0_stateAt (Cond.code yX0_stateAt cX0_stateAt 2 (some (.object "LegBench$Walker")) :: zU) rmX0_stateAt [.ref (q 8), .int a1] S o := by
  refine zMet_w (lv := [(0, .ref (q 8)), (1, .int a1)]) (by decide) (Nat.le_of_ble_eq_true rfl) rfl ?_
  intro p e s m args below meth c Q hx hb hml hr hU hown hlocks hK hN hP hS ls hl hQ
  replace hown : s.vm.findClass RX0 = some m.cls := hown
  unfold fX0_stateAt at h
  refine lv_iload_n hx hb dX0_stateAt_0 rfl (lv_at hl 1 rfl) ?_
  refine z_if_lt (tgt := 22) hx hb dX0_stateAt_1 (by decide) h (fun h => ?_) (fun h => ?_)
  · refine lv_null hx hb dX0_stateAt_22 ?_
    exact z_wretN hx hb hlocks hP hS hQ hr dX0_stateAt_23 h
  · refine lv_iload_n hx hb dX0_stateAt_4 rfl (lv_at hl 1 rfl) ?_
    refine lv_aload_n hx hb dX0_stateAt_5 rfl (lv_at hl 0 rfl) ?_
    refine z_get hx hb hU uU_X0 hown hK hP (p_8 hW) rfl rfl 0 (by decide) (hU _ uF_X0_11) rfl dX0_stateAt_6 ?_
    refine z_wlen hW hx hb hK hP dX0_stateAt_9 ?_
    refine z_icmp_ge (tgt := 22) hx hb dX0_stateAt_10 (by decide) h (fun h => ?_) (fun h => ?_)
    · refine lv_null hx hb dX0_stateAt_22 ?_
      exact z_wretN hx hb hlocks hP hS hQ hr dX0_stateAt_23 h
    · refine lv_aload_n hx hb dX0_stateAt_13 rfl (lv_at hl 0 rfl) ?_
      refine z_get hx hb hU uU_X0 hown hK hP (p_8 hW) rfl rfl 0 (by decide) (hU _ uF_X0_11) rfl dX0_stateAt_14 ?_
      refine lv_iload_n hx hb dX0_stateAt_17 rfl (lv_at hl 1 rfl) ?_
      refine z_wald hW hx hb hK hP dX0_stateAt_18 h (fun h => ?_)
      refine lv_goto (tgt := 23) hx hb dX0_stateAt_19 (by decide) ?_
      exact z_wret hx hb hlocks hP hS hQ hr dX0_stateAt_23 h

def fX2_at (b n : Nat) (a1 : Int32) (S : zT) : Option (Int32 × zT) :=
  (if a1 < 0 then some (0, S) else (if (nI n) ≤ a1 then some (0, S) else if ¬ (a1 < 0 ∨ n ≤ a1.toNatClampNeg) then some ((S.1 (b + 1) a1.toNatClampNeg), S) else none))
abbrev rmX2_at : Room := { frames := 0, cells := 0, slots := 0, locals := 0 }
theorem yd_X2_at : yX2_at.cls = RX2 ∧ yX2_at.cls ≠ "java/lang/invoke/MethodHandle" ∧ yX2_at.cls ≠ "java/lang/invoke/VarHandle" ∧ (parseMethodDescriptor yX2_at.desc).map (fun d => d.parameters.length) = some 1 := by decide +kernel
set_option maxRecDepth 100000 in
set_option maxHeartbeats 4000000 in
theorem ctX2_at {l : Launch} {dC : Nat → ClassId} {dI : Nat → Nat → Nat} {cI : ClassId × ClassId} {cW : List zSh} {q : Nat → Nat} (hq : zI cW q) {b : Nat} {n : Nat} (hb0 : isRow cI cW b n) {a1 : Int32} {S : zT} {o : Int32 × zT} (h : fX2_at b n a1 S = some o) : zCi l dC dI cI cW q yX2_at (Cond.code yX2_at cX2_at 2 (some .int) :: zU) rmX2_at [.ref (q b), .int a1] S o := by
  refine zMet_i (lv := [(0, .ref (q b)), (1, .int a1)]) (by decide) (Nat.le_of_ble_eq_true rfl) rfl ?_
  intro p e s m args below meth c Q hx hb hml hr hU hown hlocks hK hN hP hS ls hl hQ
  replace hown : s.vm.findClass RX2 = some m.cls := hown
  unfold fX2_at at h
  refine lv_iload_n hx hb dX2_at_0 rfl (lv_at hl 1 rfl) ?_
  refine z_if_lt (tgt := 22) hx hb dX2_at_1 (by decide) h (fun h => ?_) (fun h => ?_)
  · refine lv_iconst (v := 0) hx hb dX2_at_22 rfl ?_
    exact z_iret hx hb hlocks hP hS hQ hr dX2_at_23 h
  · refine lv_iload_n hx hb dX2_at_4 rfl (lv_at hl 1 rfl) ?_
    refine lv_aload_n hx hb dX2_at_5 rfl (lv_at hl 0 rfl) ?_
    refine z_get hx hb hU uU_X2 hown hK hP hb0.1 rfl rfl 0 (by decide) (hU _ uF_X2_13) rfl dX2_at_6 ?_
    refine z_alen hx hb hK hP hb0.2 dX2_at_9 ?_
    refine z_icmp_ge (tgt := 22) hx hb dX2_at_10 (by decide) h (fun h => ?_) (fun h => ?_)
    · refine lv_iconst (v := 0) hx hb dX2_at_22 rfl ?_
      exact z_iret hx hb hlocks hP hS hQ hr dX2_at_23 h
    · refine lv_aload_n hx hb dX2_at_13 rfl (lv_at hl 0 rfl) ?_
      refine z_get hx hb hU uU_X2 hown hK hP hb0.1 rfl rfl 0 (by decide) (hU _ uF_X2_13) rfl dX2_at_14 ?_
      refine lv_iload_n hx hb dX2_at_17 rfl (lv_at hl 1 rfl) ?_
      refine z_iald hx hb hK hP hb0.2 dX2_at_18 h (fun h => ?_)
      refine lv_goto (tgt := 23) hx hb dX2_at_19 (by decide) ?_
      exact z_iret hx hb hlocks hP hS hQ hr dX2_at_23 h

def fX2_copyFrom_2 (b n b1 n1 : Nat) (rec : Int32 → zT → Option zT) (x2 : Int32) (S : zT) : Option zT :=
  (if (nI n) ≤ x2 then some S else zbi (fX2_at b1 n1 x2 S) fun r_2 S_1 =>
  if ¬ (x2 < 0 ∨ n ≤ x2.toNatClampNeg) then zlet (zsi S_1 (b + 1) x2.toNatClampNeg r_2) (fun S_3 =>
  rec (x2 + 1) S_3) else none)
def fX2_copyFrom (b n b1 n1 : Nat) (S : zT) : Option zT :=
  (zfix (fun _ _ => none) (fX2_copyFrom_2 b n b1 n1) zF) 0 S
abbrev rmX2_copyFrom : Room := { frames := 1, cells := 0, slots := 0, locals := 21 }
theorem yd_X2_copyFrom : yX2_copyFrom.cls = RX2 ∧ yX2_copyFrom.cls ≠ "java/lang/invoke/MethodHandle" ∧ yX2_copyFrom.cls ≠ "java/lang/invoke/VarHandle" ∧ (parseMethodDescriptor yX2_copyFrom.desc).map (fun d => d.parameters.length) = some 1 := by decide +kernel
set_option maxRecDepth 100000 in
set_option maxHeartbeats 4000000 in
theorem ctX2_copyFrom {l : Launch} {dC : Nat → ClassId} {dI : Nat → Nat → Nat} {cI : ClassId × ClassId} {cW : List zSh} {q : Nat → Nat} (hq : zI cW q) {b : Nat} {n : Nat} {b1 : Nat} {n1 : Nat} (hb0 : isRow cI cW b n) (hb1 : isRow cI cW b1 n1) {S : zT} {o : zT} (h : fX2_copyFrom b n b1 n1 S = some o) : zCv l dC dI cI cW q yX2_copyFrom (Cond.code yX2_copyFrom cX2_copyFrom 3 none :: zU) rmX2_copyFrom [.ref (q b), .ref (q b1)] S o := by
  refine zMet_v (lv := [(0, .ref (q b)), (1, .ref (q b1))]) (by decide) (Nat.le_of_ble_eq_true rfl) rfl ?_
  intro p e s m args below meth c Q hx hb hml hr hU hown hlocks hK hN hP hS ls hl hQ
  replace hown : s.vm.findClass RX2 = some m.cls := hown
  unfold fX2_copyFrom at h
  have L2 : ∀ (n2 : Nat) (x2 : Int32) (S : zT) (H : Heap) (locs : List Loc) (ls : Array Slot), va_P (dC, dI) vwCl (zWd cI cW q S) H → va_S (zA cW q) s.heap H locs → lv_has ls 3 [(0, .ref (q b)), (1, .ref (q b1)), (2, .int x2)] → (zfix (fun _ _ => none) (fX2_copyFrom_2 b n b1 n1) n2) x2 S = some o → W p l e rmX2_copyFrom s m args below meth c H locs 0 0 Q (F0 m 2 ls []) := by
    intro n2
    induction n2 with
    | zero => intro x2 S H locs ls hP hS hl h; exact zno (show (none : Option zT) = some o from h)
    | succ n2 ih2 =>
      intro x2 S H locs ls hP hS hl h
      replace h : fX2_copyFrom_2 b n b1 n1 (zfix (fun _ _ => none) (fX2_copyFrom_2 b n b1 n1) n2) x2 S = some o := h
      unfold fX2_copyFrom_2 at h
      refine lv_iload_n hx hb dX2_copyFrom_2 rfl (lv_at hl 2 rfl) ?_
      refine lv_aload_n hx hb dX2_copyFrom_3 rfl (lv_at hl 0 rfl) ?_
      refine z_get hx hb hU uU_X2 hown hK hP hb0.1 rfl rfl 0 (by decide) (hU _ uF_X2_13) rfl dX2_copyFrom_4 ?_
      refine z_alen hx hb hK hP hb0.2 dX2_copyFrom_7 ?_
      refine z_icmp_ge (tgt := 28) hx hb dX2_copyFrom_8 (by decide) h (fun h => ?_) (fun h => ?_)
      · exact z_vret hx hb hlocks hP hS hQ hr dX2_copyFrom_28 h
      · refine lv_aload_n hx hb dX2_copyFrom_11 rfl (lv_at hl 0 rfl) ?_
        refine z_get hx hb hU uU_X2 hown hK hP hb0.1 rfl rfl 0 (by decide) (hU _ uF_X2_13) rfl dX2_copyFrom_12 ?_
        refine lv_iload_n hx hb dX2_copyFrom_15 rfl (lv_at hl 2 rfl) ?_
        refine lv_aload_n hx hb dX2_copyFrom_16 rfl (lv_at hl 1 rfl) ?_
        refine lv_iload_n hx hb dX2_copyFrom_17 rfl (lv_at hl 2 rfl) ?_
        refine z_callV_i hx hb hml hown hU hK hN hP hS 1 hb1.1 rfl rfl (zU_V uL_X2_19 uI_X2_at uS_X2_at uN_X2 uC_X2_at) yd_X2_at ⟨rfl, rfl⟩ ⟨Nat.le_of_ble_eq_true rfl, Nat.le_of_ble_eq_true rfl⟩ (As := [.int x2]) (fun o h9 => ctX2_at hq hb1 h9) rfl hl.1 rfl (Nat.le_of_ble_eq_true rfl) dX2_copyFrom_18 ⟨Nat.zero_le _, Nat.zero_le _⟩ h (fun r_2 S_1 H locs hP hS h => ?_)
        refine z_iast hx hb hq hK hP hS hb0.2 dX2_copyFrom_21 h (fun S_3 H locs hP hS h => ?_)
        refine lv_iinc (v := (x2 + 1)) (lv' := [(2, .int (x2 + 1)), (0, .ref (q b)), (1, .ref (q b1))]) hx hb dX2_copyFrom_22 hl (k := 2) rfl rfl (by decide) rfl (fun ls hl => ?_)
        refine lv_goto (tgt := 2) hx hb dX2_copyFrom_25 (by decide) ?_
        exact ih2 (x2 + 1) _ _ _ ls hP hS (lv_sub hl [1, 2, 0] rfl) h
  refine lv_iconst (v := 0) hx hb dX2_copyFrom_0 rfl ?_
  refine lv_istore_n (lv' := [(2, .int 0), (0, .ref (q b)), (1, .ref (q b1))]) hx hb dX2_copyFrom_1 rfl hl (by decide) rfl (fun ls hl => ?_)
  exact L2 zF 0 _ _ _ ls hP hS (lv_sub hl [1, 2, 0] rfl) h

def fX6_copyFrom (b b1 : Nat) (S : zT) : Option zT :=
  zlet (zsi S b 0 (S.1 b1 0)) fun S_1 =>
  zlet (zsi S_1 b 1 (S_1.1 b1 1)) fun S_2 =>
  zlet (zsi S_2 b 2 (S_2.1 b1 2)) fun S_3 =>
  zlet (zsi S_3 b 3 (S_3.1 b1 3)) fun S_4 =>
  zlet (zsi S_4 b 4 (S_4.1 b1 4)) fun S_5 =>
  zlet (zsi S_5 b 5 (S_5.1 b1 5)) fun S_6 =>
  zlet (zsi S_6 b 6 (S_6.1 b1 6)) fun S_7 =>
  zbv (fX2_copyFrom (b + 1) 8 (b1 + 1) 8 S_7) fun S_8 =>
  zbv (fX2_copyFrom (b + 3) 8 (b1 + 3) 8 S_8) fun S_9 =>
  zbv (fX2_copyFrom (b + 5) 16 (b1 + 5) 16 S_9) fun S_10 =>
  some S_10
abbrev rmX6_copyFrom : Room := { frames := 2, cells := 0, slots := 0, locals := 43 }
theorem yd_X6_copyFrom : yX6_copyFrom.cls = RX6 ∧ yX6_copyFrom.cls ≠ "java/lang/invoke/MethodHandle" ∧ yX6_copyFrom.cls ≠ "java/lang/invoke/VarHandle" ∧ (parseMethodDescriptor yX6_copyFrom.desc).map (fun d => d.parameters.length) = some 1 := by decide +kernel
set_option maxRecDepth 100000 in
set_option maxHeartbeats 4000000 in
theorem ctX6_copyFrom {l : Launch} {dC : Nat → ClassId} {dI : Nat → Nat → Nat} {cI : ClassId × ClassId} {cW : List zSh} {q : Nat → Nat} (hq : zI cW q) {b : Nat} {b1 : Nat} (hb0 : isWk cI cW b) (hb1 : isWk cI cW b1) {S : zT} {o : zT} (h : fX6_copyFrom b b1 S = some o) : zCv l dC dI cI cW q yX6_copyFrom (Cond.code yX6_copyFrom cX6_copyFrom 2 none :: zU) rmX6_copyFrom [.ref (q b), .ref (q b1)] S o := by
  refine zMet_v (lv := [(0, .ref (q b)), (1, .ref (q b1))]) (by decide) (Nat.le_of_ble_eq_true rfl) rfl ?_
  intro p e s m args below meth c Q hx hb hml hr hU hown hlocks hK hN hP hS ls hl hQ
  replace hown : s.vm.findClass RX6 = some m.cls := hown
  unfold fX6_copyFrom at h
  refine lv_aload_n hx hb dX6_copyFrom_0 rfl (lv_at hl 0 rfl) ?_
  refine lv_aload_n hx hb dX6_copyFrom_1 rfl (lv_at hl 1 rfl) ?_
  refine z_get hx hb hU uU_X6 hown hK hP hb1.1 rfl rfl 0 (by decide) (hU _ uF_X6_26) rfl dX6_copyFrom_2 ?_
  refine z_puti hx hb hU uU_X6 tyX6 tyX6_ok nmX6 hown hq hK hP hS hb0.1 rfl rfl 0 (by decide) (hU _ uF_X6_26) rfl rfl rfl (Nat.le_of_ble_eq_true rfl) rfl dX6_copyFrom_5 h (fun S_1 H locs hP hS h => ?_)
  refine lv_aload_n hx hb dX6_copyFrom_8 rfl (lv_at hl 0 rfl) ?_
  refine lv_aload_n hx hb dX6_copyFrom_9 rfl (lv_at hl 1 rfl) ?_
  refine z_get hx hb hU uU_X6 hown hK hP hb1.1 rfl rfl 1 (by decide) (hU _ uF_X6_30) rfl dX6_copyFrom_10 ?_
  refine z_puti hx hb hU uU_X6 tyX6 tyX6_ok nmX6 hown hq hK hP hS hb0.1 rfl rfl 1 (by decide) (hU _ uF_X6_30) rfl rfl rfl (Nat.le_of_ble_eq_true rfl) rfl dX6_copyFrom_13 h (fun S_2 H locs hP hS h => ?_)
  refine lv_aload_n hx hb dX6_copyFrom_16 rfl (lv_at hl 0 rfl) ?_
  refine lv_aload_n hx hb dX6_copyFrom_17 rfl (lv_at hl 1 rfl) ?_
  refine z_get hx hb hU uU_X6 hown hK hP hb1.1 rfl rfl 2 (by decide) (hU _ uF_X6_37) rfl dX6_copyFrom_18 ?_
  refine z_puti hx hb hU uU_X6 tyX6 tyX6_ok nmX6 hown hq hK hP hS hb0.1 rfl rfl 2 (by decide) (hU _ uF_X6_37) rfl rfl rfl (Nat.le_of_ble_eq_true rfl) rfl dX6_copyFrom_21 h (fun S_3 H locs hP hS h => ?_)
  refine lv_aload_n hx hb dX6_copyFrom_24 rfl (lv_at hl 0 rfl) ?_
  refine lv_aload_n hx hb dX6_copyFrom_25 rfl (lv_at hl 1 rfl) ?_
  refine z_get hx hb hU uU_X6 hown hK hP hb1.1 rfl rfl 3 (by decide) (hU _ uF_X6_40) rfl dX6_copyFrom_26 ?_
  refine z_puti hx hb hU uU_X6 tyX6 tyX6_ok nmX6 hown hq hK hP hS hb0.1 rfl rfl 3 (by decide) (hU _ uF_X6_40) rfl rfl rfl (Nat.le_of_ble_eq_true rfl) rfl dX6_copyFrom_29 h (fun S_4 H locs hP hS h => ?_)
  refine lv_aload_n hx hb dX6_copyFrom_32 rfl (lv_at hl 0 rfl) ?_
  refine lv_aload_n hx hb dX6_copyFrom_33 rfl (lv_at hl 1 rfl) ?_
  refine z_get hx hb hU uU_X6 hown hK hP hb1.1 rfl rfl 4 (by decide) (hU _ uF_X6_43) rfl dX6_copyFrom_34 ?_
  refine z_puti hx hb hU uU_X6 tyX6 tyX6_ok nmX6 hown hq hK hP hS hb0.1 rfl rfl 4 (by decide) (hU _ uF_X6_43) rfl rfl rfl (Nat.le_of_ble_eq_true rfl) rfl dX6_copyFrom_37 h (fun S_5 H locs hP hS h => ?_)
  refine lv_aload_n hx hb dX6_copyFrom_40 rfl (lv_at hl 0 rfl) ?_
  refine lv_aload_n hx hb dX6_copyFrom_41 rfl (lv_at hl 1 rfl) ?_
  refine z_get hx hb hU uU_X6 hown hK hP hb1.1 rfl rfl 5 (by decide) (hU _ uF_X6_46) rfl dX6_copyFrom_42 ?_
  refine z_puti hx hb hU uU_X6 tyX6 tyX6_ok nmX6 hown hq hK hP hS hb0.1 rfl rfl 5 (by decide) (hU _ uF_X6_46) rfl rfl rfl (Nat.le_of_ble_eq_true rfl) rfl dX6_copyFrom_45 h (fun S_6 H locs hP hS h => ?_)
  refine lv_aload_n hx hb dX6_copyFrom_48 rfl (lv_at hl 0 rfl) ?_
  refine lv_aload_n hx hb dX6_copyFrom_49 rfl (lv_at hl 1 rfl) ?_
  refine z_get hx hb hU uU_X6 hown hK hP hb1.1 rfl rfl 6 (by decide) (hU _ uF_X6_49) rfl dX6_copyFrom_50 ?_
  refine z_puti hx hb hU uU_X6 tyX6 tyX6_ok nmX6 hown hq hK hP hS hb0.1 rfl rfl 6 (by decide) (hU _ uF_X6_49) rfl rfl rfl (Nat.le_of_ble_eq_true rfl) rfl dX6_copyFrom_53 h (fun S_7 H locs hP hS h => ?_)
  refine lv_aload_n hx hb dX6_copyFrom_56 rfl (lv_at hl 0 rfl) ?_
  refine z_get hx hb hU uU_X6 hown hK hP hb0.1 rfl rfl 7 (by decide) (hU _ uF_X6_14) rfl dX6_copyFrom_57 ?_
  refine lv_aload_n hx hb dX6_copyFrom_60 rfl (lv_at hl 1 rfl) ?_
  refine z_get hx hb hU uU_X6 hown hK hP hb1.1 rfl rfl 7 (by decide) (hU _ uF_X6_14) rfl dX6_copyFrom_61 ?_
  refine z_callV_v hx hb hml hown hU hK hN hP hS 1 hb0.2.1.1 rfl rfl (zU_V uL_X6_56 uI_X2_copyFrom uS_X2_copyFrom uN_X2 uC_X2_copyFrom) yd_X2_copyFrom ⟨rfl, rfl⟩ ⟨Nat.le_of_ble_eq_true rfl, Nat.le_of_ble_eq_true rfl⟩ (As := [.ref (q (b1 + 1))]) (fun o h9 => ctX2_copyFrom hq hb0.2.1 hb1.2.1 h9) rfl hl.1 rfl (Nat.le_of_ble_eq_true rfl) dX6_copyFrom_64 ⟨Nat.zero_le _, Nat.zero_le _⟩ h (fun S_8 H locs hP hS h => ?_)
  refine lv_aload_n hx hb dX6_copyFrom_67 rfl (lv_at hl 0 rfl) ?_
  refine z_get hx hb hU uU_X6 hown hK hP hb0.1 rfl rfl 8 (by decide) (hU _ uF_X6_20) rfl dX6_copyFrom_68 ?_
  refine lv_aload_n hx hb dX6_copyFrom_71 rfl (lv_at hl 1 rfl) ?_
  refine z_get hx hb hU uU_X6 hown hK hP hb1.1 rfl rfl 8 (by decide) (hU _ uF_X6_20) rfl dX6_copyFrom_72 ?_
  refine z_callV_v hx hb hml hown hU hK hN hP hS 1 hb0.2.2.1.1 rfl rfl (zU_V uL_X6_56 uI_X2_copyFrom uS_X2_copyFrom uN_X2 uC_X2_copyFrom) yd_X2_copyFrom ⟨rfl, rfl⟩ ⟨Nat.le_of_ble_eq_true rfl, Nat.le_of_ble_eq_true rfl⟩ (As := [.ref (q (b1 + 3))]) (fun o h9 => ctX2_copyFrom hq hb0.2.2.1 hb1.2.2.1 h9) rfl hl.1 rfl (Nat.le_of_ble_eq_true rfl) dX6_copyFrom_75 ⟨Nat.zero_le _, Nat.zero_le _⟩ h (fun S_9 H locs hP hS h => ?_)
  refine lv_aload_n hx hb dX6_copyFrom_78 rfl (lv_at hl 0 rfl) ?_
  refine z_get hx hb hU uU_X6 hown hK hP hb0.1 rfl rfl 9 (by decide) (hU _ uF_X6_23) rfl dX6_copyFrom_79 ?_
  refine lv_aload_n hx hb dX6_copyFrom_82 rfl (lv_at hl 1 rfl) ?_
  refine z_get hx hb hU uU_X6 hown hK hP hb1.1 rfl rfl 9 (by decide) (hU _ uF_X6_23) rfl dX6_copyFrom_83 ?_
  refine z_callV_v hx hb hml hown hU hK hN hP hS 1 hb0.2.2.2.1 rfl rfl (zU_V uL_X6_56 uI_X2_copyFrom uS_X2_copyFrom uN_X2 uC_X2_copyFrom) yd_X2_copyFrom ⟨rfl, rfl⟩ ⟨Nat.le_of_ble_eq_true rfl, Nat.le_of_ble_eq_true rfl⟩ (As := [.ref (q (b1 + 5))]) (fun o h9 => ctX2_copyFrom hq hb0.2.2.2 hb1.2.2.2 h9) rfl hl.1 rfl (Nat.le_of_ble_eq_true rfl) dX6_copyFrom_86 ⟨Nat.zero_le _, Nat.zero_le _⟩ h (fun S_10 H locs hP hS h => ?_)
  exact z_vret hx hb hlocks hP hS hQ hr dX6_copyFrom_89 h

def fX0_keep_41 (b1 : Nat) (t0 : Int32) (S : zT) : Option zT :=
  zlet (zsi S 8 1 t0) fun S_1 =>
  zlet (zsi S_1 8 2 (if 8 < ((S_1.1 8 2) + 1) then 8 else ((S_1.1 8 2) + 1))) fun S_2 =>
  some S_2
def fX0_keep (b1 : Nat) (S : zT) : Option zT :=
  zbw (fX0_stateAt (S.1 8 1) S) (fun S_3 => some S_3) (fun k_4 S_3 => zbv (fX6_copyFrom k_4 b1 S_3) fun S_5 =>
  (if 8 ≤ ((S_5.1 8 1) + 1) then (fX0_keep_41 b1) 0 S_5 else (fX0_keep_41 b1) ((S_5.1 8 1) + 1) S_5))
abbrev rmX0_keep : Room := { frames := 3, cells := 0, slots := 0, locals := 64 }
theorem yd_X0_keep : yX0_keep.cls = RX0 ∧ yX0_keep.cls ≠ "java/lang/invoke/MethodHandle" ∧ yX0_keep.cls ≠ "java/lang/invoke/VarHandle" ∧ (parseMethodDescriptor yX0_keep.desc).map (fun d => d.parameters.length) = some 1 := by decide +kernel
set_option maxRecDepth 100000 in
set_option maxHeartbeats 4000000 in
theorem ctX0_keep {l : Launch} {dC : Nat → ClassId} {dI : Nat → Nat → Nat} {cI : ClassId × ClassId} {cW : List zSh} {q : Nat → Nat} (hq : zI cW q) (hW : zIs cI cW) {b1 : Nat} (hb1 : isWk cI cW b1) {S : zT} {o : zT} (h : fX0_keep b1 S = some o) : zCv l dC dI cI cW q yX0_keep (Cond.code yX0_keep cX0_keep 3 none :: zU) rmX0_keep [.ref (q 8), .ref (q b1)] S o := by
  refine zMet_v (lv := [(0, .ref (q 8)), (1, .ref (q b1))]) (by decide) (Nat.le_of_ble_eq_true rfl) rfl ?_
  intro p e s m args below meth c Q hx hb hml hr hU hown hlocks hK hN hP hS ls hl hQ
  replace hown : s.vm.findClass RX0 = some m.cls := hown
  unfold fX0_keep at h
  have L41 : ∀ (t0 : Int32) (S : zT) (H : Heap) (locs : List Loc) (ls : Array Slot), va_P (dC, dI) vwCl (zWd cI cW q S) H → va_S (zA cW q) s.heap H locs → lv_has ls 3 [(0, .ref (q 8))] → (fX0_keep_41 b1) t0 S = some o → W p l e rmX0_keep s m args below meth c H locs 0 0 Q (F0 m 41 ls [.int t0, .ref (q 8)]) := by
    intro t0 S H locs ls hP hS hl h
    unfold fX0_keep_41 at h
    refine z_puti hx hb hU uU_X0 tyX0 tyX0_ok nmX0 hown hq hK hP hS (p_8 hW) rfl rfl 1 (by decide) (hU _ uF_X0_18) rfl rfl rfl (Nat.le_of_ble_eq_true rfl) rfl dX0_keep_41 h (fun S_1 H locs hP hS h => ?_)
    refine lv_aload_n hx hb dX0_keep_44 rfl (lv_at hl 0 rfl) ?_
    refine lv_aload_n hx hb dX0_keep_45 rfl (lv_at hl 0 rfl) ?_
    refine z_get hx hb hU uU_X0 hown hK hP (p_8 hW) rfl rfl 2 (by decide) (hU _ uF_X0_30) rfl dX0_keep_46 ?_
    refine lv_iconst (v := 1) hx hb dX0_keep_49 rfl ?_
    refine lv_iadd hx hb dX0_keep_50 ?_
    refine lv_bipush (v := 8) hx hb dX0_keep_51 rfl ?_
    refine va_mmin hx hb (hml.trans hl.1.symm) hown (hU _ uL_X0_33) (hU _ uT_J9_min_7cf53) (hU _ uN_J9) (hU _ uC_J9_min_7cf53) (Nat.le_of_ble_eq_true rfl) (Nat.le_of_ble_eq_true rfl) (Nat.zero_le _) (Nat.zero_le _) dX0_keep_53 ?_
    refine z_puti hx hb hU uU_X0 tyX0 tyX0_ok nmX0 hown hq hK hP hS (p_8 hW) rfl rfl 2 (by decide) (hU _ uF_X0_30) rfl rfl rfl (Nat.le_of_ble_eq_true rfl) rfl dX0_keep_56 h (fun S_2 H locs hP hS h => ?_)
    exact z_vret hx hb hlocks hP hS hQ hr dX0_keep_59 h
  refine lv_aload_n hx hb dX0_keep_0 rfl (lv_at hl 0 rfl) ?_
  refine lv_aload_n hx hb dX0_keep_1 rfl (lv_at hl 0 rfl) ?_
  refine z_get hx hb hU uU_X0 hown hK hP (p_8 hW) rfl rfl 1 (by decide) (hU _ uF_X0_18) rfl dX0_keep_2 ?_
  refine z_callV_w hW hx hb hml hown hU hK hN hP hS 1 (p_8 hW) rfl rfl (zU_V uL_X0_22 uI_X0_stateAt uS_X0_stateAt uN_X0 uC_X0_stateAt) yd_X0_stateAt ⟨rfl, rfl⟩ ⟨Nat.le_of_ble_eq_true rfl, Nat.le_of_ble_eq_true rfl⟩ (As := [.int (S.1 8 1)]) (fun o h9 => ctX0_stateAt hq hW h9) rfl hl.1 rfl (Nat.le_of_ble_eq_true rfl) dX0_keep_5 ⟨Nat.zero_le _, Nat.zero_le _⟩ h (fun S_3 H locs hP hS h => ?_) (fun k_4 S_3 H locs hk_4 hP hS h => ?_)
  · refine lv_astore_nN (lv' := [(2, .null), (0, .ref (q 8)), (1, .ref (q b1))]) hx hb dX0_keep_8 rfl hl (by decide) rfl (fun ls hl => ?_)
    refine lv_aload_nN hx hb dX0_keep_9 rfl (lv_at hl 0 rfl) ?_
    refine lv_ifnonnullN hx hb dX0_keep_10 ?_
    exact z_vret hx hb hlocks hP hS hQ hr dX0_keep_13 h
  · refine lv_astore_n (lv' := [(2, .ref (q k_4)), (0, .ref (q 8)), (1, .ref (q b1))]) hx hb dX0_keep_8 rfl hl (by decide) rfl (fun ls hl => ?_)
    refine lv_aload_n hx hb dX0_keep_9 rfl (lv_at hl 0 rfl) ?_
    refine lv_ifnonnull (tgt := 14) hx hb dX0_keep_10 (by decide) ?_
    refine lv_aload_n hx hb dX0_keep_14 rfl (lv_at hl 0 rfl) ?_
    refine lv_aload_n hx hb dX0_keep_15 rfl (lv_at hl 2 rfl) ?_
    refine z_callV_v hx hb hml hown hU hK hN hP hS 1 hk_4.1 rfl rfl (zU_V uL_X0_26 uI_X6_copyFrom uS_X6_copyFrom uN_X6 uC_X6_copyFrom) yd_X6_copyFrom ⟨rfl, rfl⟩ ⟨Nat.le_of_ble_eq_true rfl, Nat.le_of_ble_eq_true rfl⟩ (As := [.ref (q b1)]) (fun o h9 => ctX6_copyFrom hq hk_4 hb1 h9) rfl hl.1 rfl (Nat.le_of_ble_eq_true rfl) dX0_keep_16 ⟨Nat.zero_le _, Nat.zero_le _⟩ h (fun S_5 H locs hP hS h => ?_)
    refine lv_aload_n hx hb dX0_keep_19 rfl (lv_at hl 1 rfl) ?_
    refine lv_aload_n hx hb dX0_keep_20 rfl (lv_at hl 1 rfl) ?_
    refine z_get hx hb hU uU_X0 hown hK hP (p_8 hW) rfl rfl 1 (by decide) (hU _ uF_X0_18) rfl dX0_keep_21 ?_
    refine lv_iconst (v := 1) hx hb dX0_keep_24 rfl ?_
    refine lv_iadd hx hb dX0_keep_25 ?_
    refine lv_bipush (v := 8) hx hb dX0_keep_26 rfl ?_
    refine z_icmp_ge (tgt := 40) hx hb dX0_keep_28 (by decide) h (fun h => ?_) (fun h => ?_)
    · refine lv_iconst (v := 0) hx hb dX0_keep_40 rfl ?_
      exact L41 0 _ _ _ ls hP hS (lv_sub hl [1] rfl) h
    · refine lv_aload_n hx hb dX0_keep_31 rfl (lv_at hl 1 rfl) ?_
      refine z_get hx hb hU uU_X0 hown hK hP (p_8 hW) rfl rfl 1 (by decide) (hU _ uF_X0_18) rfl dX0_keep_32 ?_
      refine lv_iconst (v := 1) hx hb dX0_keep_35 rfl ?_
      refine lv_iadd hx hb dX0_keep_36 ?_
      refine lv_goto (tgt := 41) hx hb dX0_keep_37 (by decide) ?_
      exact L41 ((S_5.1 8 1) + 1) _ _ _ ls hP hS (lv_sub hl [1] rfl) h

def fX7_walker (a1 : Int32) (a2 : Int32) (S : zT) : Option (Int32 × zT) :=
  zbi (fX7_isWithin a1 2 8 S) fun r_2 S_1 =>
  (if r_2 = 0 then some (0, S_1) else zbi (fX7_isWithin a2 0 2 S_1) fun r_4 S_3 =>
  (if r_4 = 0 then some (0, S_3) else zbv (fX0_keep 1 S_3) fun S_5 =>
  zbv (fX6_makeAnew 1 a1 a2 S_5) fun S_6 =>
  some (1, S_6)))
abbrev rmX7_walker : Room := { frames := 4, cells := 0, slots := 0, locals := 86 }
theorem yd_X7_walker : yX7_walker.cls = RX7 ∧ yX7_walker.cls ≠ "java/lang/invoke/MethodHandle" ∧ yX7_walker.cls ≠ "java/lang/invoke/VarHandle" ∧ (parseMethodDescriptor yX7_walker.desc).map (fun d => d.parameters.length) = some 2 := by decide +kernel
set_option maxRecDepth 100000 in
set_option maxHeartbeats 4000000 in
theorem ctX7_walker {l : Launch} {dC : Nat → ClassId} {dI : Nat → Nat → Nat} {cI : ClassId × ClassId} {cW : List zSh} {q : Nat → Nat} (hq : zI cW q) (hW : zIs cI cW) {a1 : Int32} {a2 : Int32} {S : zT} {o : Int32 × zT} (h : fX7_walker a1 a2 S = some o) : zCi l dC dI cI cW q yX7_walker (Cond.code yX7_walker cX7_walker 3 (some .boolean) :: zU) rmX7_walker [.ref (q 0), .int a1, .int a2] S o := by
  refine zMet_i (lv := [(0, .ref (q 0)), (1, .int a1), (2, .int a2)]) (by decide) (Nat.le_of_ble_eq_true rfl) rfl ?_
  intro p e s m args below meth c Q hx hb hml hr hU hown hlocks hK hN hP hS ls hl hQ
  replace hown : s.vm.findClass RX7 = some m.cls := hown
  unfold fX7_walker at h
  refine lv_iload_n hx hb dX7_walker_0 rfl (lv_at hl 1 rfl) ?_
  refine lv_iconst (v := 2) hx hb dX7_walker_1 rfl ?_
  refine lv_bipush (v := 8) hx hb dX7_walker_2 rfl ?_
  refine z_callS_i hx hb hml hown hU hK hN hP hS 3 (zU_J uL_X7_63 uT_X7_isWithin uN_X7 uC_X7_isWithin) yd_X7_isWithin ⟨rfl, rfl⟩ ⟨Nat.le_of_ble_eq_true rfl, Nat.le_of_ble_eq_true rfl⟩ (As := [.int a1, .int 2, .int 8]) (fun o h9 => ctX7_isWithin hq  h9) rfl hl.1 rfl (Nat.le_of_ble_eq_true rfl) dX7_walker_4 ⟨Nat.zero_le _, Nat.zero_le _⟩ h (fun r_2 S_1 H locs hP hS h => ?_)
  refine z_if_eq (tgt := 19) hx hb dX7_walker_7 (by decide) h (fun h => ?_) (fun h => ?_)
  · refine lv_iconst (v := 0) hx hb dX7_walker_19 rfl ?_
    exact z_zretC hx hb hlocks hP hS hQ hr dX7_walker_20 (Or.inl rfl) h
  · refine lv_iload_n hx hb dX7_walker_10 rfl (lv_at hl 2 rfl) ?_
    refine lv_iconst (v := 0) hx hb dX7_walker_11 rfl ?_
    refine lv_iconst (v := 2) hx hb dX7_walker_12 rfl ?_
    refine z_callS_i hx hb hml hown hU hK hN hP hS 3 (zU_J uL_X7_63 uT_X7_isWithin uN_X7 uC_X7_isWithin) yd_X7_isWithin ⟨rfl, rfl⟩ ⟨Nat.le_of_ble_eq_true rfl, Nat.le_of_ble_eq_true rfl⟩ (As := [.int a2, .int 0, .int 2]) (fun o h9 => ctX7_isWithin hq  h9) rfl hl.1 rfl (Nat.le_of_ble_eq_true rfl) dX7_walker_13 ⟨Nat.zero_le _, Nat.zero_le _⟩ h (fun r_4 S_3 H locs hP hS h => ?_)
    refine z_if_ne (tgt := 21) hx hb dX7_walker_16 (by decide) h (fun h => ?_) (fun h => ?_)
    · refine lv_aload_n hx hb dX7_walker_21 rfl (lv_at hl 0 rfl) ?_
      refine z_get hx hb hU uU_X7 hown hK hP (p_0 hW) rfl rfl 1 (by decide) (hU _ uF_X7_19) rfl dX7_walker_22 ?_
      refine lv_aload_n hx hb dX7_walker_25 rfl (lv_at hl 0 rfl) ?_
      refine z_get hx hb hU uU_X7 hown hK hP (p_0 hW) rfl rfl 0 (by decide) (hU _ uF_X7_12) rfl dX7_walker_26 ?_
      refine z_callV_v hx hb hml hown hU hK hN hP hS 1 (p_8 hW) rfl rfl (zU_V uL_X7_67 uI_X0_keep uS_X0_keep uN_X0 uC_X0_keep) yd_X0_keep ⟨rfl, rfl⟩ ⟨Nat.le_of_ble_eq_true rfl, Nat.le_of_ble_eq_true rfl⟩ (As := [.ref (q 1)]) (fun o h9 => ctX0_keep hq hW (pW_1 hW) h9) rfl hl.1 rfl (Nat.le_of_ble_eq_true rfl) dX7_walker_29 ⟨Nat.zero_le _, Nat.zero_le _⟩ h (fun S_5 H locs hP hS h => ?_)
      refine lv_aload_n hx hb dX7_walker_32 rfl (lv_at hl 0 rfl) ?_
      refine z_get hx hb hU uU_X7 hown hK hP (p_0 hW) rfl rfl 0 (by decide) (hU _ uF_X7_12) rfl dX7_walker_33 ?_
      refine lv_iload_n hx hb dX7_walker_36 rfl (lv_at hl 1 rfl) ?_
      refine lv_iload_n hx hb dX7_walker_37 rfl (lv_at hl 2 rfl) ?_
      refine z_callV_v hx hb hml hown hU hK hN hP hS 2 (pW_1 hW).1 rfl rfl (zU_V uL_X7_59 uI_X6_makeAnew uS_X6_makeAnew uN_X6 uC_X6_makeAnew) yd_X6_makeAnew ⟨rfl, rfl⟩ ⟨Nat.le_of_ble_eq_true rfl, Nat.le_of_ble_eq_true rfl⟩ (As := [.int a1, .int a2]) (fun o h9 => ctX6_makeAnew hq (pW_1 hW) h9) rfl hl.1 rfl (Nat.le_of_ble_eq_true rfl) dX7_walker_38 ⟨Nat.zero_le _, Nat.zero_le _⟩ h (fun S_6 H locs hP hS h => ?_)
      refine lv_iconst (v := 1) hx hb dX7_walker_41 rfl ?_
      exact z_zretC hx hb hlocks hP hS hQ hr dX7_walker_42 (Or.inr rfl) h
    · refine lv_iconst (v := 0) hx hb dX7_walker_19 rfl ?_
      exact z_zretC hx hb hlocks hP hS hQ hr dX7_walker_20 (Or.inl rfl) h

def fX6_hasLeg (b : Nat) (a1 : Int32) (S : zT) : Option (Int32 × zT) :=
  (if a1 < 0 then some (0, S) else (if (S.1 b 0) ≤ a1 then some (0, S) else some (1, S)))
abbrev rmX6_hasLeg : Room := { frames := 0, cells := 0, slots := 0, locals := 0 }
theorem yd_X6_hasLeg : yX6_hasLeg.cls = RX6 ∧ yX6_hasLeg.cls ≠ "java/lang/invoke/MethodHandle" ∧ yX6_hasLeg.cls ≠ "java/lang/invoke/VarHandle" ∧ (parseMethodDescriptor yX6_hasLeg.desc).map (fun d => d.parameters.length) = some 1 := by decide +kernel
set_option maxRecDepth 100000 in
set_option maxHeartbeats 4000000 in
theorem ctX6_hasLeg {l : Launch} {dC : Nat → ClassId} {dI : Nat → Nat → Nat} {cI : ClassId × ClassId} {cW : List zSh} {q : Nat → Nat} (hq : zI cW q) {b : Nat} (hb0 : isWk cI cW b) {a1 : Int32} {S : zT} {o : Int32 × zT} (h : fX6_hasLeg b a1 S = some o) : zCi l dC dI cI cW q yX6_hasLeg (Cond.code yX6_hasLeg cX6_hasLeg 2 (some .boolean) :: zU) rmX6_hasLeg [.ref (q b), .int a1] S o := by
  refine zMet_i (lv := [(0, .ref (q b)), (1, .int a1)]) (by decide) (Nat.le_of_ble_eq_true rfl) rfl ?_
  intro p e s m args below meth c Q hx hb hml hr hU hown hlocks hK hN hP hS ls hl hQ
  replace hown : s.vm.findClass RX6 = some m.cls := hown
  unfold fX6_hasLeg at h
  refine lv_iload_n hx hb dX6_hasLeg_0 rfl (lv_at hl 1 rfl) ?_
  refine z_if_lt (tgt := 16) hx hb dX6_hasLeg_1 (by decide) h (fun h => ?_) (fun h => ?_)
  · refine lv_iconst (v := 0) hx hb dX6_hasLeg_16 rfl ?_
    exact z_zretC hx hb hlocks hP hS hQ hr dX6_hasLeg_17 (Or.inl rfl) h
  · refine lv_iload_n hx hb dX6_hasLeg_4 rfl (lv_at hl 1 rfl) ?_
    refine lv_aload_n hx hb dX6_hasLeg_5 rfl (lv_at hl 0 rfl) ?_
    refine z_get hx hb hU uU_X6 hown hK hP hb0.1 rfl rfl 0 (by decide) (hU _ uF_X6_26) rfl dX6_hasLeg_6 ?_
    refine z_icmp_ge (tgt := 16) hx hb dX6_hasLeg_9 (by decide) h (fun h => ?_) (fun h => ?_)
    · refine lv_iconst (v := 0) hx hb dX6_hasLeg_16 rfl ?_
      exact z_zretC hx hb hlocks hP hS hQ hr dX6_hasLeg_17 (Or.inl rfl) h
    · refine lv_iconst (v := 1) hx hb dX6_hasLeg_12 rfl ?_
      refine lv_goto (tgt := 17) hx hb dX6_hasLeg_13 (by decide) ?_
      exact z_zretC hx hb hlocks hP hS hQ hr dX6_hasLeg_17 (Or.inr rfl) h

def fX7_isPlace (a0 : Int32) (a1 : Int32) (S : zT) : Option (Int32 × zT) :=
  zbi (fX7_isWithin a0 (-20) 20 S) fun r_2 S_1 =>
  (if r_2 = 0 then some (0, S_1) else zbi (fX7_isWithin a1 (-20) 20 S_1) fun r_4 S_3 =>
  (if r_4 = 0 then some (0, S_3) else some (1, S_3)))
abbrev rmX7_isPlace : Room := { frames := 1, cells := 0, slots := 0, locals := 22 }
theorem yd_X7_isPlace : yX7_isPlace.cls ≠ "java/lang/invoke/MethodHandle" ∧ yX7_isPlace.cls ≠ "java/lang/invoke/VarHandle" ∧ (parseMethodDescriptor yX7_isPlace.desc).map (fun d => d.parameters.length) = some 2 := by decide +kernel
set_option maxRecDepth 100000 in
set_option maxHeartbeats 4000000 in
theorem ctX7_isPlace {l : Launch} {dC : Nat → ClassId} {dI : Nat → Nat → Nat} {cI : ClassId × ClassId} {cW : List zSh} {q : Nat → Nat} (hq : zI cW q) {a0 : Int32} {a1 : Int32} {S : zT} {o : Int32 × zT} (h : fX7_isPlace a0 a1 S = some o) : zCi l dC dI cI cW q yX7_isPlace (Cond.code yX7_isPlace cX7_isPlace 2 (some .boolean) :: zU) rmX7_isPlace [.int a0, .int a1] S o := by
  refine zMet_i (lv := [(0, .int a0), (1, .int a1)]) (by decide) (Nat.le_of_ble_eq_true rfl) rfl ?_
  intro p e s m args below meth c Q hx hb hml hr hU hown hlocks hK hN hP hS ls hl hQ
  replace hown : s.vm.findClass RX7 = some m.cls := hown
  unfold fX7_isPlace at h
  refine lv_iload_n hx hb dX7_isPlace_0 rfl (lv_at hl 0 rfl) ?_
  refine lv_bipush (v := (-20)) hx hb dX7_isPlace_1 rfl ?_
  refine lv_bipush (v := 20) hx hb dX7_isPlace_3 rfl ?_
  refine z_callS_i hx hb hml hown hU hK hN hP hS 3 (zU_J uL_X7_63 uT_X7_isWithin uN_X7 uC_X7_isWithin) yd_X7_isWithin ⟨rfl, rfl⟩ ⟨Nat.le_of_ble_eq_true rfl, Nat.le_of_ble_eq_true rfl⟩ (As := [.int a0, .int (-20), .int 20]) (fun o h9 => ctX7_isWithin hq  h9) rfl hl.1 rfl (Nat.le_of_ble_eq_true rfl) dX7_isPlace_5 ⟨Nat.zero_le _, Nat.zero_le _⟩ h (fun r_2 S_1 H locs hP hS h => ?_)
  refine z_if_eq (tgt := 26) hx hb dX7_isPlace_8 (by decide) h (fun h => ?_) (fun h => ?_)
  · refine lv_iconst (v := 0) hx hb dX7_isPlace_26 rfl ?_
    exact z_zretC hx hb hlocks hP hS hQ hr dX7_isPlace_27 (Or.inl rfl) h
  · refine lv_iload_n hx hb dX7_isPlace_11 rfl (lv_at hl 1 rfl) ?_
    refine lv_bipush (v := (-20)) hx hb dX7_isPlace_12 rfl ?_
    refine lv_bipush (v := 20) hx hb dX7_isPlace_14 rfl ?_
    refine z_callS_i hx hb hml hown hU hK hN hP hS 3 (zU_J uL_X7_63 uT_X7_isWithin uN_X7 uC_X7_isWithin) yd_X7_isWithin ⟨rfl, rfl⟩ ⟨Nat.le_of_ble_eq_true rfl, Nat.le_of_ble_eq_true rfl⟩ (As := [.int a1, .int (-20), .int 20]) (fun o h9 => ctX7_isWithin hq  h9) rfl hl.1 rfl (Nat.le_of_ble_eq_true rfl) dX7_isPlace_16 ⟨Nat.zero_le _, Nat.zero_le _⟩ h (fun r_4 S_3 H locs hP hS h => ?_)
    refine z_if_eq (tgt := 26) hx hb dX7_isPlace_19 (by decide) h (fun h => ?_) (fun h => ?_)
    · refine lv_iconst (v := 0) hx hb dX7_isPlace_26 rfl ?_
      exact z_zretC hx hb hlocks hP hS hQ hr dX7_isPlace_27 (Or.inl rfl) h
    · refine lv_iconst (v := 1) hx hb dX7_isPlace_22 rfl ?_
      refine lv_goto (tgt := 27) hx hb dX7_isPlace_23 (by decide) ?_
      exact z_zretC hx hb hlocks hP hS hQ hr dX7_isPlace_27 (Or.inr rfl) h

def fX6_legAt_36 (b : Nat) (k2 : Int32 → Int32 → Int32 → zT → Option (Int32 × zT)) (x1 : Int32) (x2 : Int32) (x3 : Int32) (S : zT) : Option (Int32 × zT) :=
  k2 x1 x2 (x3 + 1) S
def fX6_legAt_2 (b : Nat) (rec : Int32 → Int32 → Int32 → zT → Option (Int32 × zT)) (x1 : Int32) (x2 : Int32) (x3 : Int32) (S : zT) : Option (Int32 × zT) :=
  (if (S.1 b 0) ≤ x3 then some ((-1), S) else zbi (fX2_at (b + 1) 8 x3 S) fun r_2 S_1 =>
  (if r_2 = x1 then zbi (fX2_at (b + 3) 8 x3 S_1) fun r_4 S_3 =>
  (if r_4 = x2 then some (x3, S_3) else (fX6_legAt_36 b rec) x1 x2 x3 S_3) else (fX6_legAt_36 b rec) x1 x2 x3 S_1))
def fX6_legAt (b : Nat) (a1 : Int32) (a2 : Int32) (S : zT) : Option (Int32 × zT) :=
  (zfix (fun _ _ _ _ => none) (fX6_legAt_2 b) zF) a1 a2 0 S
abbrev rmX6_legAt : Room := { frames := 1, cells := 0, slots := 0, locals := 21 }
theorem yd_X6_legAt : yX6_legAt.cls = RX6 ∧ yX6_legAt.cls ≠ "java/lang/invoke/MethodHandle" ∧ yX6_legAt.cls ≠ "java/lang/invoke/VarHandle" ∧ (parseMethodDescriptor yX6_legAt.desc).map (fun d => d.parameters.length) = some 2 := by decide +kernel
set_option maxRecDepth 100000 in
set_option maxHeartbeats 4000000 in
theorem ctX6_legAt {l : Launch} {dC : Nat → ClassId} {dI : Nat → Nat → Nat} {cI : ClassId × ClassId} {cW : List zSh} {q : Nat → Nat} (hq : zI cW q) {b : Nat} (hb0 : isWk cI cW b) {a1 : Int32} {a2 : Int32} {S : zT} {o : Int32 × zT} (h : fX6_legAt b a1 a2 S = some o) : zCi l dC dI cI cW q yX6_legAt (Cond.code yX6_legAt cX6_legAt 4 (some .int) :: zU) rmX6_legAt [.ref (q b), .int a1, .int a2] S o := by
  refine zMet_i (lv := [(0, .ref (q b)), (1, .int a1), (2, .int a2)]) (by decide) (Nat.le_of_ble_eq_true rfl) rfl ?_
  intro p e s m args below meth c Q hx hb hml hr hU hown hlocks hK hN hP hS ls hl hQ
  replace hown : s.vm.findClass RX6 = some m.cls := hown
  unfold fX6_legAt at h
  have L2 : ∀ (n2 : Nat) (x1 : Int32) (x2 : Int32) (x3 : Int32) (S : zT) (H : Heap) (locs : List Loc) (ls : Array Slot), va_P (dC, dI) vwCl (zWd cI cW q S) H → va_S (zA cW q) s.heap H locs → lv_has ls 4 [(0, .ref (q b)), (1, .int x1), (2, .int x2), (3, .int x3)] → (zfix (fun _ _ _ _ => none) (fX6_legAt_2 b) n2) x1 x2 x3 S = some o → W p l e rmX6_legAt s m args below meth c H locs 0 0 Q (F0 m 2 ls []) := by
    intro n2
    induction n2 with
    | zero => intro x1 x2 x3 S H locs ls hP hS hl h; exact zno (show (none : Option (Int32 × zT)) = some o from h)
    | succ n2 ih2 =>
      intro x1 x2 x3 S H locs ls hP hS hl h
      replace h : fX6_legAt_2 b (zfix (fun _ _ _ _ => none) (fX6_legAt_2 b) n2) x1 x2 x3 S = some o := h
      unfold fX6_legAt_2 at h
      have L36 : ∀ (x1 : Int32) (x2 : Int32) (x3 : Int32) (S : zT) (H : Heap) (locs : List Loc) (ls : Array Slot), va_P (dC, dI) vwCl (zWd cI cW q S) H → va_S (zA cW q) s.heap H locs → lv_has ls 4 [(0, .ref (q b)), (1, .int x1), (2, .int x2), (3, .int x3)] → (fX6_legAt_36 b (zfix (fun _ _ _ _ => none) (fX6_legAt_2 b) n2)) x1 x2 x3 S = some o → W p l e rmX6_legAt s m args below meth c H locs 0 0 Q (F0 m 36 ls []) := by
        intro x1 x2 x3 S H locs ls hP hS hl h
        unfold fX6_legAt_36 at h
        refine lv_iinc (v := (x3 + 1)) (lv' := [(3, .int (x3 + 1)), (0, .ref (q b)), (1, .int x1), (2, .int x2)]) hx hb dX6_legAt_36 hl (k := 3) rfl rfl (by decide) rfl (fun ls hl => ?_)
        refine lv_goto (tgt := 2) hx hb dX6_legAt_39 (by decide) ?_
        exact ih2 x1 x2 (x3 + 1) _ _ _ ls hP hS (lv_sub hl [1, 2, 3, 0] rfl) h
      refine lv_iload_n hx hb dX6_legAt_2 rfl (lv_at hl 3 rfl) ?_
      refine lv_aload_n hx hb dX6_legAt_3 rfl (lv_at hl 0 rfl) ?_
      refine z_get hx hb hU uU_X6 hown hK hP hb0.1 rfl rfl 0 (by decide) (hU _ uF_X6_26) rfl dX6_legAt_4 ?_
      refine z_icmp_ge (tgt := 42) hx hb dX6_legAt_7 (by decide) h (fun h => ?_) (fun h => ?_)
      · refine lv_iconst (v := (-1)) hx hb dX6_legAt_42 rfl ?_
        exact z_iret hx hb hlocks hP hS hQ hr dX6_legAt_43 h
      · refine lv_aload_n hx hb dX6_legAt_10 rfl (lv_at hl 0 rfl) ?_
        refine z_get hx hb hU uU_X6 hown hK hP hb0.1 rfl rfl 7 (by decide) (hU _ uF_X6_14) rfl dX6_legAt_11 ?_
        refine lv_iload_n hx hb dX6_legAt_14 rfl (lv_at hl 3 rfl) ?_
        refine z_callV_i hx hb hml hown hU hK hN hP hS 1 hb0.2.1.1 rfl rfl (zU_V uL_X6_60 uI_X2_at uS_X2_at uN_X2 uC_X2_at) yd_X2_at ⟨rfl, rfl⟩ ⟨Nat.le_of_ble_eq_true rfl, Nat.le_of_ble_eq_true rfl⟩ (As := [.int x3]) (fun o h9 => ctX2_at hq hb0.2.1 h9) rfl hl.1 rfl (Nat.le_of_ble_eq_true rfl) dX6_legAt_15 ⟨Nat.zero_le _, Nat.zero_le _⟩ h (fun r_2 S_1 H locs hP hS h => ?_)
        refine lv_iload_n hx hb dX6_legAt_18 rfl (lv_at hl 1 rfl) ?_
        refine z_icmp_ne (tgt := 36) hx hb dX6_legAt_19 (by decide) h (fun h => ?_) (fun h => ?_)
        · exact L36 x1 x2 x3 _ _ _ ls hP hS (lv_sub hl [0, 1, 2, 3] rfl) h
        · refine lv_aload_n hx hb dX6_legAt_22 rfl (lv_at hl 0 rfl) ?_
          refine z_get hx hb hU uU_X6 hown hK hP hb0.1 rfl rfl 8 (by decide) (hU _ uF_X6_20) rfl dX6_legAt_23 ?_
          refine lv_iload_n hx hb dX6_legAt_26 rfl (lv_at hl 3 rfl) ?_
          refine z_callV_i hx hb hml hown hU hK hN hP hS 1 hb0.2.2.1.1 rfl rfl (zU_V uL_X6_60 uI_X2_at uS_X2_at uN_X2 uC_X2_at) yd_X2_at ⟨rfl, rfl⟩ ⟨Nat.le_of_ble_eq_true rfl, Nat.le_of_ble_eq_true rfl⟩ (As := [.int x3]) (fun o h9 => ctX2_at hq hb0.2.2.1 h9) rfl hl.1 rfl (Nat.le_of_ble_eq_true rfl) dX6_legAt_27 ⟨Nat.zero_le _, Nat.zero_le _⟩ h (fun r_4 S_3 H locs hP hS h => ?_)
          refine lv_iload_n hx hb dX6_legAt_30 rfl (lv_at hl 2 rfl) ?_
          refine z_icmp_ne (tgt := 36) hx hb dX6_legAt_31 (by decide) h (fun h => ?_) (fun h => ?_)
          · exact L36 x1 x2 x3 _ _ _ ls hP hS (lv_sub hl [0, 1, 2, 3] rfl) h
          · refine lv_iload_n hx hb dX6_legAt_34 rfl (lv_at hl 3 rfl) ?_
            exact z_iret hx hb hlocks hP hS hQ hr dX6_legAt_35 h
  refine lv_iconst (v := 0) hx hb dX6_legAt_0 rfl ?_
  refine lv_istore_n (lv' := [(3, .int 0), (0, .ref (q b)), (1, .int a1), (2, .int a2)]) hx hb dX6_legAt_1 rfl hl (by decide) rfl (fun ls hl => ?_)
  exact L2 zF a1 a2 0 _ _ _ ls hP hS (lv_sub hl [1, 2, 3, 0] rfl) h

def fX7_leg_46 (x1 : Int32) (x2 : Int32) (x3 : Int32) (S : zT) : Option (Int32 × zT) :=
  zbv (fX0_keep 1 S) fun S_1 =>
  zbv (fX2_put (1 + 1) 8 x1 x2 S_1) fun S_2 =>
  zbv (fX2_put (1 + 3) 8 x1 x3 S_2) fun S_3 =>
  some (1, S_3)
def fX7_leg (a1 : Int32) (a2 : Int32) (a3 : Int32) (S : zT) : Option (Int32 × zT) :=
  zbi (fX6_hasLeg 1 a1 S) fun r_5 S_4 =>
  (if r_5 = 0 then some (0, S_4) else zbi (fX7_isPlace a2 a3 S_4) fun r_7 S_6 =>
  (if r_7 = 0 then some (0, S_6) else zbi (fX6_legAt 1 a2 a3 S_6) fun r_9 S_8 =>
  (if r_9 = (-1) then fX7_leg_46 a1 a2 a3 S_8 else (if r_9 = a1 then fX7_leg_46 a1 a2 a3 S_8 else some (0, S_8)))))
abbrev rmX7_leg : Room := { frames := 4, cells := 0, slots := 0, locals := 86 }
theorem yd_X7_leg : yX7_leg.cls = RX7 ∧ yX7_leg.cls ≠ "java/lang/invoke/MethodHandle" ∧ yX7_leg.cls ≠ "java/lang/invoke/VarHandle" ∧ (parseMethodDescriptor yX7_leg.desc).map (fun d => d.parameters.length) = some 3 := by decide +kernel
set_option maxRecDepth 100000 in
set_option maxHeartbeats 4000000 in
theorem ctX7_leg {l : Launch} {dC : Nat → ClassId} {dI : Nat → Nat → Nat} {cI : ClassId × ClassId} {cW : List zSh} {q : Nat → Nat} (hq : zI cW q) (hW : zIs cI cW) {a1 : Int32} {a2 : Int32} {a3 : Int32} {S : zT} {o : Int32 × zT} (h : fX7_leg a1 a2 a3 S = some o) : zCi l dC dI cI cW q yX7_leg (Cond.code yX7_leg cX7_leg 5 (some .boolean) :: zU) rmX7_leg [.ref (q 0), .int a1, .int a2, .int a3] S o := by
  refine zMet_i (lv := [(0, .ref (q 0)), (1, .int a1), (2, .int a2), (3, .int a3)]) (by decide) (Nat.le_of_ble_eq_true rfl) rfl ?_
  intro p e s m args below meth c Q hx hb hml hr hU hown hlocks hK hN hP hS ls hl hQ
  replace hown : s.vm.findClass RX7 = some m.cls := hown
  unfold fX7_leg at h
  have L46 : ∀ (x1 : Int32) (x2 : Int32) (x3 : Int32) (S : zT) (H : Heap) (locs : List Loc) (ls : Array Slot), va_P (dC, dI) vwCl (zWd cI cW q S) H → va_S (zA cW q) s.heap H locs → lv_has ls 5 [(0, .ref (q 0)), (1, .int x1), (2, .int x2), (3, .int x3)] → fX7_leg_46 x1 x2 x3 S = some o → W p l e rmX7_leg s m args below meth c H locs 0 0 Q (F0 m 46 ls []) := by
    intro x1 x2 x3 S H locs ls hP hS hl h
    unfold fX7_leg_46 at h
    refine lv_aload_n hx hb dX7_leg_46 rfl (lv_at hl 0 rfl) ?_
    refine z_get hx hb hU uU_X7 hown hK hP (p_0 hW) rfl rfl 1 (by decide) (hU _ uF_X7_19) rfl dX7_leg_47 ?_
    refine lv_aload_n hx hb dX7_leg_50 rfl (lv_at hl 0 rfl) ?_
    refine z_get hx hb hU uU_X7 hown hK hP (p_0 hW) rfl rfl 0 (by decide) (hU _ uF_X7_12) rfl dX7_leg_51 ?_
    refine z_callV_v hx hb hml hown hU hK hN hP hS 1 (p_8 hW) rfl rfl (zU_V uL_X7_67 uI_X0_keep uS_X0_keep uN_X0 uC_X0_keep) yd_X0_keep ⟨rfl, rfl⟩ ⟨Nat.le_of_ble_eq_true rfl, Nat.le_of_ble_eq_true rfl⟩ (As := [.ref (q 1)]) (fun o h9 => ctX0_keep hq hW (pW_1 hW) h9) rfl hl.1 rfl (Nat.le_of_ble_eq_true rfl) dX7_leg_54 ⟨Nat.zero_le _, Nat.zero_le _⟩ h (fun S_1 H locs hP hS h => ?_)
    refine lv_aload_n hx hb dX7_leg_57 rfl (lv_at hl 0 rfl) ?_
    refine z_get hx hb hU uU_X7 hown hK hP (p_0 hW) rfl rfl 0 (by decide) (hU _ uF_X7_12) rfl dX7_leg_58 ?_
    refine z_get hx hb hU uU_X6 hown hK hP (pW_1 hW).1 rfl rfl 7 (by decide) (hU _ uF_X7_83) rfl dX7_leg_61 ?_
    refine lv_iload_n hx hb dX7_leg_64 rfl (lv_at hl 1 rfl) ?_
    refine lv_iload_n hx hb dX7_leg_65 rfl (lv_at hl 2 rfl) ?_
    refine z_callV_v hx hb hml hown hU hK hN hP hS 2 (pW_1 hW).2.1.1 rfl rfl (zU_V uL_X7_86 uI_X2_put uS_X2_put uN_X2 uC_X2_put) yd_X2_put ⟨rfl, rfl⟩ ⟨Nat.le_of_ble_eq_true rfl, Nat.le_of_ble_eq_true rfl⟩ (As := [.int x1, .int x2]) (fun o h9 => ctX2_put hq (pW_1 hW).2.1 h9) rfl hl.1 rfl (Nat.le_of_ble_eq_true rfl) dX7_leg_66 ⟨Nat.zero_le _, Nat.zero_le _⟩ h (fun S_2 H locs hP hS h => ?_)
    refine lv_aload_n hx hb dX7_leg_69 rfl (lv_at hl 0 rfl) ?_
    refine z_get hx hb hU uU_X7 hown hK hP (p_0 hW) rfl rfl 0 (by decide) (hU _ uF_X7_12) rfl dX7_leg_70 ?_
    refine z_get hx hb hU uU_X6 hown hK hP (pW_1 hW).1 rfl rfl 8 (by decide) (hU _ uF_X7_89) rfl dX7_leg_73 ?_
    refine lv_iload_n hx hb dX7_leg_76 rfl (lv_at hl 1 rfl) ?_
    refine lv_iload_n hx hb dX7_leg_77 rfl (lv_at hl 3 rfl) ?_
    refine z_callV_v hx hb hml hown hU hK hN hP hS 2 (pW_1 hW).2.2.1.1 rfl rfl (zU_V uL_X7_86 uI_X2_put uS_X2_put uN_X2 uC_X2_put) yd_X2_put ⟨rfl, rfl⟩ ⟨Nat.le_of_ble_eq_true rfl, Nat.le_of_ble_eq_true rfl⟩ (As := [.int x1, .int x3]) (fun o h9 => ctX2_put hq (pW_1 hW).2.2.1 h9) rfl hl.1 rfl (Nat.le_of_ble_eq_true rfl) dX7_leg_78 ⟨Nat.zero_le _, Nat.zero_le _⟩ h (fun S_3 H locs hP hS h => ?_)
    refine lv_iconst (v := 1) hx hb dX7_leg_81 rfl ?_
    exact z_zretC hx hb hlocks hP hS hQ hr dX7_leg_82 (Or.inr rfl) h
  refine lv_aload_n hx hb dX7_leg_0 rfl (lv_at hl 0 rfl) ?_
  refine z_get hx hb hU uU_X7 hown hK hP (p_0 hW) rfl rfl 0 (by decide) (hU _ uF_X7_12) rfl dX7_leg_1 ?_
  refine lv_iload_n hx hb dX7_leg_4 rfl (lv_at hl 1 rfl) ?_
  refine z_callV_i hx hb hml hown hU hK hN hP hS 1 (pW_1 hW).1 rfl rfl (zU_V uL_X7_71 uI_X6_hasLeg uS_X6_hasLeg uN_X6 uC_X6_hasLeg) yd_X6_hasLeg ⟨rfl, rfl⟩ ⟨Nat.le_of_ble_eq_true rfl, Nat.le_of_ble_eq_true rfl⟩ (As := [.int a1]) (fun o h9 => ctX6_hasLeg hq (pW_1 hW) h9) rfl hl.1 rfl (Nat.le_of_ble_eq_true rfl) dX7_leg_5 ⟨Nat.zero_le _, Nat.zero_le _⟩ h (fun r_5 S_4 H locs hP hS h => ?_)
  refine z_if_eq (tgt := 19) hx hb dX7_leg_8 (by decide) h (fun h => ?_) (fun h => ?_)
  · refine lv_iconst (v := 0) hx hb dX7_leg_19 rfl ?_
    exact z_zretC hx hb hlocks hP hS hQ hr dX7_leg_20 (Or.inl rfl) h
  · refine lv_iload_n hx hb dX7_leg_11 rfl (lv_at hl 2 rfl) ?_
    refine lv_iload_n hx hb dX7_leg_12 rfl (lv_at hl 3 rfl) ?_
    refine z_callS_i hx hb hml hown hU hK hN hP hS 2 (zU_J uL_X7_75 uT_X7_isPlace uN_X7 uC_X7_isPlace) yd_X7_isPlace ⟨rfl, rfl⟩ ⟨Nat.le_of_ble_eq_true rfl, Nat.le_of_ble_eq_true rfl⟩ (As := [.int a2, .int a3]) (fun o h9 => ctX7_isPlace hq  h9) rfl hl.1 rfl (Nat.le_of_ble_eq_true rfl) dX7_leg_13 ⟨Nat.zero_le _, Nat.zero_le _⟩ h (fun r_7 S_6 H locs hP hS h => ?_)
    refine z_if_ne (tgt := 21) hx hb dX7_leg_16 (by decide) h (fun h => ?_) (fun h => ?_)
    · refine lv_aload_n hx hb dX7_leg_21 rfl (lv_at hl 0 rfl) ?_
      refine z_get hx hb hU uU_X7 hown hK hP (p_0 hW) rfl rfl 0 (by decide) (hU _ uF_X7_12) rfl dX7_leg_22 ?_
      refine lv_iload_n hx hb dX7_leg_25 rfl (lv_at hl 2 rfl) ?_
      refine lv_iload_n hx hb dX7_leg_26 rfl (lv_at hl 3 rfl) ?_
      refine z_callV_i hx hb hml hown hU hK hN hP hS 2 (pW_1 hW).1 rfl rfl (zU_V uL_X7_79 uI_X6_legAt uS_X6_legAt uN_X6 uC_X6_legAt) yd_X6_legAt ⟨rfl, rfl⟩ ⟨Nat.le_of_ble_eq_true rfl, Nat.le_of_ble_eq_true rfl⟩ (As := [.int a2, .int a3]) (fun o h9 => ctX6_legAt hq (pW_1 hW) h9) rfl hl.1 rfl (Nat.le_of_ble_eq_true rfl) dX7_leg_27 ⟨Nat.zero_le _, Nat.zero_le _⟩ h (fun r_9 S_8 H locs hP hS h => ?_)
      refine lv_istore (lv' := [(4, .int r_9), (0, .ref (q 0)), (1, .int a1), (2, .int a2), (3, .int a3)]) hx hb dX7_leg_30 hl (by decide) rfl (fun ls hl => ?_)
      refine lv_iload hx hb dX7_leg_32 (lv_at hl 0 rfl) ?_
      refine lv_iconst (v := (-1)) hx hb dX7_leg_34 rfl ?_
      refine z_icmp_eq (tgt := 46) hx hb dX7_leg_35 (by decide) h (fun h => ?_) (fun h => ?_)
      · exact L46 a1 a2 a3 _ _ _ ls hP hS (lv_sub hl [1, 2, 3, 4] rfl) h
      · refine lv_iload hx hb dX7_leg_38 (lv_at hl 0 rfl) ?_
        refine lv_iload_n hx hb dX7_leg_40 rfl (lv_at hl 2 rfl) ?_
        refine z_icmp_eq (tgt := 46) hx hb dX7_leg_41 (by decide) h (fun h => ?_) (fun h => ?_)
        · exact L46 a1 a2 a3 _ _ _ ls hP hS (lv_sub hl [1, 2, 3, 4] rfl) h
        · refine lv_iconst (v := 0) hx hb dX7_leg_44 rfl ?_
          exact z_zretC hx hb hlocks hP hS hQ hr dX7_leg_45 (Or.inl rfl) h
    · refine lv_iconst (v := 0) hx hb dX7_leg_19 rfl ?_
      exact z_zretC hx hb hlocks hP hS hQ hr dX7_leg_20 (Or.inl rfl) h

def fX7_middle (a1 : Int32) (a2 : Int32) (S : zT) : Option (Int32 × zT) :=
  zbi (fX7_isPlace a1 a2 S) fun r_2 S_1 =>
  (if r_2 = 0 then some (0, S_1) else zbv (fX0_keep 1 S_1) fun S_3 =>
  zlet (zsi S_3 1 2 a1) fun S_4 =>
  zlet (zsi S_4 1 3 a2) fun S_5 =>
  some (1, S_5))
abbrev rmX7_middle : Room := { frames := 4, cells := 0, slots := 0, locals := 86 }
theorem yd_X7_middle : yX7_middle.cls = RX7 ∧ yX7_middle.cls ≠ "java/lang/invoke/MethodHandle" ∧ yX7_middle.cls ≠ "java/lang/invoke/VarHandle" ∧ (parseMethodDescriptor yX7_middle.desc).map (fun d => d.parameters.length) = some 2 := by decide +kernel
set_option maxRecDepth 100000 in
set_option maxHeartbeats 4000000 in
theorem ctX7_middle {l : Launch} {dC : Nat → ClassId} {dI : Nat → Nat → Nat} {cI : ClassId × ClassId} {cW : List zSh} {q : Nat → Nat} (hq : zI cW q) (hW : zIs cI cW) {a1 : Int32} {a2 : Int32} {S : zT} {o : Int32 × zT} (h : fX7_middle a1 a2 S = some o) : zCi l dC dI cI cW q yX7_middle (Cond.code yX7_middle cX7_middle 3 (some .boolean) :: zU) rmX7_middle [.ref (q 0), .int a1, .int a2] S o := by
  refine zMet_i (lv := [(0, .ref (q 0)), (1, .int a1), (2, .int a2)]) (by decide) (Nat.le_of_ble_eq_true rfl) rfl ?_
  intro p e s m args below meth c Q hx hb hml hr hU hown hlocks hK hN hP hS ls hl hQ
  replace hown : s.vm.findClass RX7 = some m.cls := hown
  unfold fX7_middle at h
  refine lv_iload_n hx hb dX7_middle_0 rfl (lv_at hl 1 rfl) ?_
  refine lv_iload_n hx hb dX7_middle_1 rfl (lv_at hl 2 rfl) ?_
  refine z_callS_i hx hb hml hown hU hK hN hP hS 2 (zU_J uL_X7_75 uT_X7_isPlace uN_X7 uC_X7_isPlace) yd_X7_isPlace ⟨rfl, rfl⟩ ⟨Nat.le_of_ble_eq_true rfl, Nat.le_of_ble_eq_true rfl⟩ (As := [.int a1, .int a2]) (fun o h9 => ctX7_isPlace hq  h9) rfl hl.1 rfl (Nat.le_of_ble_eq_true rfl) dX7_middle_2 ⟨Nat.zero_le _, Nat.zero_le _⟩ h (fun r_2 S_1 H locs hP hS h => ?_)
  refine z_if_ne (tgt := 10) hx hb dX7_middle_5 (by decide) h (fun h => ?_) (fun h => ?_)
  · refine lv_aload_n hx hb dX7_middle_10 rfl (lv_at hl 0 rfl) ?_
    refine z_get hx hb hU uU_X7 hown hK hP (p_0 hW) rfl rfl 1 (by decide) (hU _ uF_X7_19) rfl dX7_middle_11 ?_
    refine lv_aload_n hx hb dX7_middle_14 rfl (lv_at hl 0 rfl) ?_
    refine z_get hx hb hU uU_X7 hown hK hP (p_0 hW) rfl rfl 0 (by decide) (hU _ uF_X7_12) rfl dX7_middle_15 ?_
    refine z_callV_v hx hb hml hown hU hK hN hP hS 1 (p_8 hW) rfl rfl (zU_V uL_X7_67 uI_X0_keep uS_X0_keep uN_X0 uC_X0_keep) yd_X0_keep ⟨rfl, rfl⟩ ⟨Nat.le_of_ble_eq_true rfl, Nat.le_of_ble_eq_true rfl⟩ (As := [.ref (q 1)]) (fun o h9 => ctX0_keep hq hW (pW_1 hW) h9) rfl hl.1 rfl (Nat.le_of_ble_eq_true rfl) dX7_middle_18 ⟨Nat.zero_le _, Nat.zero_le _⟩ h (fun S_3 H locs hP hS h => ?_)
    refine lv_aload_n hx hb dX7_middle_21 rfl (lv_at hl 0 rfl) ?_
    refine z_get hx hb hU uU_X7 hown hK hP (p_0 hW) rfl rfl 0 (by decide) (hU _ uF_X7_12) rfl dX7_middle_22 ?_
    refine lv_iload_n hx hb dX7_middle_25 rfl (lv_at hl 1 rfl) ?_
    refine z_puti hx hb hU uU_X6 tyX6 tyX6_ok nmX6 hown hq hK hP hS (pW_1 hW).1 rfl rfl 2 (by decide) (hU _ uF_X7_92) rfl rfl rfl (Nat.le_of_ble_eq_true rfl) rfl dX7_middle_26 h (fun S_4 H locs hP hS h => ?_)
    refine lv_aload_n hx hb dX7_middle_29 rfl (lv_at hl 0 rfl) ?_
    refine z_get hx hb hU uU_X7 hown hK hP (p_0 hW) rfl rfl 0 (by decide) (hU _ uF_X7_12) rfl dX7_middle_30 ?_
    refine lv_iload_n hx hb dX7_middle_33 rfl (lv_at hl 2 rfl) ?_
    refine z_puti hx hb hU uU_X6 tyX6 tyX6_ok nmX6 hown hq hK hP hS (pW_1 hW).1 rfl rfl 3 (by decide) (hU _ uF_X7_96) rfl rfl rfl (Nat.le_of_ble_eq_true rfl) rfl dX7_middle_34 h (fun S_5 H locs hP hS h => ?_)
    refine lv_iconst (v := 1) hx hb dX7_middle_37 rfl ?_
    exact z_zretC hx hb hlocks hP hS hQ hr dX7_middle_38 (Or.inr rfl) h
  · refine lv_iconst (v := 0) hx hb dX7_middle_8 rfl ?_
    exact z_zretC hx hb hlocks hP hS hQ hr dX7_middle_9 (Or.inl rfl) h

def fX7_pace (a1 : Int32) (a2 : Int32) (S : zT) : Option (Int32 × zT) :=
  zbi (fX7_isWithin a1 0 9 S) fun r_2 S_1 =>
  (if r_2 = 0 then some (0, S_1) else zbi (fX7_isWithin a2 0 40 S_1) fun r_4 S_3 =>
  (if r_4 = 0 then some (0, S_3) else zbv (fX0_keep 1 S_3) fun S_5 =>
  zlet (zsi S_5 1 4 a1) fun S_6 =>
  zlet (zsi S_6 1 5 a2) fun S_7 =>
  some (1, S_7)))
abbrev rmX7_pace : Room := { frames := 4, cells := 0, slots := 0, locals := 86 }
theorem yd_X7_pace : yX7_pace.cls = RX7 ∧ yX7_pace.cls ≠ "java/lang/invoke/MethodHandle" ∧ yX7_pace.cls ≠ "java/lang/invoke/VarHandle" ∧ (parseMethodDescriptor yX7_pace.desc).map (fun d => d.parameters.length) = some 2 := by decide +kernel
set_option maxRecDepth 100000 in
set_option maxHeartbeats 4000000 in
theorem ctX7_pace {l : Launch} {dC : Nat → ClassId} {dI : Nat → Nat → Nat} {cI : ClassId × ClassId} {cW : List zSh} {q : Nat → Nat} (hq : zI cW q) (hW : zIs cI cW) {a1 : Int32} {a2 : Int32} {S : zT} {o : Int32 × zT} (h : fX7_pace a1 a2 S = some o) : zCi l dC dI cI cW q yX7_pace (Cond.code yX7_pace cX7_pace 3 (some .boolean) :: zU) rmX7_pace [.ref (q 0), .int a1, .int a2] S o := by
  refine zMet_i (lv := [(0, .ref (q 0)), (1, .int a1), (2, .int a2)]) (by decide) (Nat.le_of_ble_eq_true rfl) rfl ?_
  intro p e s m args below meth c Q hx hb hml hr hU hown hlocks hK hN hP hS ls hl hQ
  replace hown : s.vm.findClass RX7 = some m.cls := hown
  unfold fX7_pace at h
  refine lv_iload_n hx hb dX7_pace_0 rfl (lv_at hl 1 rfl) ?_
  refine lv_iconst (v := 0) hx hb dX7_pace_1 rfl ?_
  refine lv_bipush (v := 9) hx hb dX7_pace_2 rfl ?_
  refine z_callS_i hx hb hml hown hU hK hN hP hS 3 (zU_J uL_X7_63 uT_X7_isWithin uN_X7 uC_X7_isWithin) yd_X7_isWithin ⟨rfl, rfl⟩ ⟨Nat.le_of_ble_eq_true rfl, Nat.le_of_ble_eq_true rfl⟩ (As := [.int a1, .int 0, .int 9]) (fun o h9 => ctX7_isWithin hq  h9) rfl hl.1 rfl (Nat.le_of_ble_eq_true rfl) dX7_pace_4 ⟨Nat.zero_le _, Nat.zero_le _⟩ h (fun r_2 S_1 H locs hP hS h => ?_)
  refine z_if_eq (tgt := 20) hx hb dX7_pace_7 (by decide) h (fun h => ?_) (fun h => ?_)
  · refine lv_iconst (v := 0) hx hb dX7_pace_20 rfl ?_
    exact z_zretC hx hb hlocks hP hS hQ hr dX7_pace_21 (Or.inl rfl) h
  · refine lv_iload_n hx hb dX7_pace_10 rfl (lv_at hl 2 rfl) ?_
    refine lv_iconst (v := 0) hx hb dX7_pace_11 rfl ?_
    refine lv_bipush (v := 40) hx hb dX7_pace_12 rfl ?_
    refine z_callS_i hx hb hml hown hU hK hN hP hS 3 (zU_J uL_X7_63 uT_X7_isWithin uN_X7 uC_X7_isWithin) yd_X7_isWithin ⟨rfl, rfl⟩ ⟨Nat.le_of_ble_eq_true rfl, Nat.le_of_ble_eq_true rfl⟩ (As := [.int a2, .int 0, .int 40]) (fun o h9 => ctX7_isWithin hq  h9) rfl hl.1 rfl (Nat.le_of_ble_eq_true rfl) dX7_pace_14 ⟨Nat.zero_le _, Nat.zero_le _⟩ h (fun r_4 S_3 H locs hP hS h => ?_)
    refine z_if_ne (tgt := 22) hx hb dX7_pace_17 (by decide) h (fun h => ?_) (fun h => ?_)
    · refine lv_aload_n hx hb dX7_pace_22 rfl (lv_at hl 0 rfl) ?_
      refine z_get hx hb hU uU_X7 hown hK hP (p_0 hW) rfl rfl 1 (by decide) (hU _ uF_X7_19) rfl dX7_pace_23 ?_
      refine lv_aload_n hx hb dX7_pace_26 rfl (lv_at hl 0 rfl) ?_
      refine z_get hx hb hU uU_X7 hown hK hP (p_0 hW) rfl rfl 0 (by decide) (hU _ uF_X7_12) rfl dX7_pace_27 ?_
      refine z_callV_v hx hb hml hown hU hK hN hP hS 1 (p_8 hW) rfl rfl (zU_V uL_X7_67 uI_X0_keep uS_X0_keep uN_X0 uC_X0_keep) yd_X0_keep ⟨rfl, rfl⟩ ⟨Nat.le_of_ble_eq_true rfl, Nat.le_of_ble_eq_true rfl⟩ (As := [.ref (q 1)]) (fun o h9 => ctX0_keep hq hW (pW_1 hW) h9) rfl hl.1 rfl (Nat.le_of_ble_eq_true rfl) dX7_pace_30 ⟨Nat.zero_le _, Nat.zero_le _⟩ h (fun S_5 H locs hP hS h => ?_)
      refine lv_aload_n hx hb dX7_pace_33 rfl (lv_at hl 0 rfl) ?_
      refine z_get hx hb hU uU_X7 hown hK hP (p_0 hW) rfl rfl 0 (by decide) (hU _ uF_X7_12) rfl dX7_pace_34 ?_
      refine lv_iload_n hx hb dX7_pace_37 rfl (lv_at hl 1 rfl) ?_
      refine z_puti hx hb hU uU_X6 tyX6 tyX6_ok nmX6 hown hq hK hP hS (pW_1 hW).1 rfl rfl 4 (by decide) (hU _ uF_X7_99) rfl rfl rfl (Nat.le_of_ble_eq_true rfl) rfl dX7_pace_38 h (fun S_6 H locs hP hS h => ?_)
      refine lv_aload_n hx hb dX7_pace_41 rfl (lv_at hl 0 rfl) ?_
      refine z_get hx hb hU uU_X7 hown hK hP (p_0 hW) rfl rfl 0 (by decide) (hU _ uF_X7_12) rfl dX7_pace_42 ?_
      refine lv_iload_n hx hb dX7_pace_45 rfl (lv_at hl 2 rfl) ?_
      refine z_puti hx hb hU uU_X6 tyX6 tyX6_ok nmX6 hown hq hK hP hS (pW_1 hW).1 rfl rfl 5 (by decide) (hU _ uF_X7_102) rfl rfl rfl (Nat.le_of_ble_eq_true rfl) rfl dX7_pace_46 h (fun S_7 H locs hP hS h => ?_)
      refine lv_iconst (v := 1) hx hb dX7_pace_49 rfl ?_
      exact z_zretC hx hb hlocks hP hS hQ hr dX7_pace_50 (Or.inr rfl) h
    · refine lv_iconst (v := 0) hx hb dX7_pace_20 rfl ?_
      exact z_zretC hx hb hlocks hP hS hQ hr dX7_pace_21 (Or.inl rfl) h

def fX7_gait_85 (k43 : Int32 → Int32 → Int32 → Int32 → Int32 → Int32 → zT → Option (Int32 × zT)) (x2 : Int32) (x3 : Int32) (x4 : Int32) (x5 : Int32) (x6 : Int32) (x7 : Int32) (t0 : Int32) (S : zT) : Option (Int32 × zT) :=
  zbi (fX6_fullSet 1 S) fun r_2 S_1 =>
  zbv (fX2_put (1 + 5) 16 x7 ((zushr t0 (8 * (x7 &&& 3))) &&& r_2) S_1) fun S_3 =>
  k43 x2 x3 x4 x5 x6 (x7 + 1) S_3
def fX7_gait_43 (rec : Int32 → Int32 → Int32 → Int32 → Int32 → Int32 → zT → Option (Int32 × zT)) (x2 : Int32) (x3 : Int32) (x4 : Int32) (x5 : Int32) (x6 : Int32) (x7 : Int32) (S : zT) : Option (Int32 × zT) :=
  (if x2 ≤ x7 then some (x2, S) else (if 4 ≤ x7 then (if 8 ≤ x7 then (if 12 ≤ x7 then (fX7_gait_85 rec) x2 x3 x4 x5 x6 x7 x6 S else (fX7_gait_85 rec) x2 x3 x4 x5 x6 x7 x5 S) else (fX7_gait_85 rec) x2 x3 x4 x5 x6 x7 x4 S) else (fX7_gait_85 rec) x2 x3 x4 x5 x6 x7 x3 S))
def fX7_gait (a1 : Int32) (a2 : Int32) (a3 : Int32) (a4 : Int32) (a5 : Int32) (a6 : Int32) (S : zT) : Option (Int32 × zT) :=
  zbi (fX7_isWithin a1 0 2 S) fun r_5 S_4 =>
  (if r_5 = 0 then some ((-1), S_4) else zbi (fX7_isWithin a2 1 16 S_4) fun r_7 S_6 =>
  (if r_7 = 0 then some ((-1), S_6) else zbv (fX0_keep 1 S_6) fun S_8 =>
  zlet (zsi S_8 1 6 a2) fun S_9 =>
  (zfix (fun _ _ _ _ _ _ _ => none) fX7_gait_43 zF) a2 a3 a4 a5 a6 0 S_9))
abbrev rmX7_gait : Room := { frames := 4, cells := 0, slots := 0, locals := 86 }
theorem yd_X7_gait : yX7_gait.cls = RX7 ∧ yX7_gait.cls ≠ "java/lang/invoke/MethodHandle" ∧ yX7_gait.cls ≠ "java/lang/invoke/VarHandle" ∧ (parseMethodDescriptor yX7_gait.desc).map (fun d => d.parameters.length) = some 6 := by decide +kernel
set_option maxRecDepth 100000 in
set_option maxHeartbeats 4000000 in
theorem ctX7_gait {l : Launch} {dC : Nat → ClassId} {dI : Nat → Nat → Nat} {cI : ClassId × ClassId} {cW : List zSh} {q : Nat → Nat} (hq : zI cW q) (hW : zIs cI cW) {a1 : Int32} {a2 : Int32} {a3 : Int32} {a4 : Int32} {a5 : Int32} {a6 : Int32} {S : zT} {o : Int32 × zT} (h : fX7_gait a1 a2 a3 a4 a5 a6 S = some o) : zCi l dC dI cI cW q yX7_gait (Cond.code yX7_gait cX7_gait 9 (some .int) :: zU) rmX7_gait [.ref (q 0), .int a1, .int a2, .int a3, .int a4, .int a5, .int a6] S o := by
  refine zMet_i (lv := [(0, .ref (q 0)), (1, .int a1), (2, .int a2), (3, .int a3), (4, .int a4), (5, .int a5), (6, .int a6)]) (by decide) (Nat.le_of_ble_eq_true rfl) rfl ?_
  intro p e s m args below meth c Q hx hb hml hr hU hown hlocks hK hN hP hS ls hl hQ
  replace hown : s.vm.findClass RX7 = some m.cls := hown
  unfold fX7_gait at h
  have L43 : ∀ (n43 : Nat) (x2 : Int32) (x3 : Int32) (x4 : Int32) (x5 : Int32) (x6 : Int32) (x7 : Int32) (S : zT) (H : Heap) (locs : List Loc) (ls : Array Slot), va_P (dC, dI) vwCl (zWd cI cW q S) H → va_S (zA cW q) s.heap H locs → lv_has ls 9 [(0, .ref (q 0)), (2, .int x2), (3, .int x3), (4, .int x4), (5, .int x5), (6, .int x6), (7, .int x7)] → (zfix (fun _ _ _ _ _ _ _ => none) fX7_gait_43 n43) x2 x3 x4 x5 x6 x7 S = some o → W p l e rmX7_gait s m args below meth c H locs 0 0 Q (F0 m 43 ls []) := by
    intro n43
    induction n43 with
    | zero => intro x2 x3 x4 x5 x6 x7 S H locs ls hP hS hl h; exact zno (show (none : Option (Int32 × zT)) = some o from h)
    | succ n43 ih43 =>
      intro x2 x3 x4 x5 x6 x7 S H locs ls hP hS hl h
      replace h : fX7_gait_43 (zfix (fun _ _ _ _ _ _ _ => none) fX7_gait_43 n43) x2 x3 x4 x5 x6 x7 S = some o := h
      unfold fX7_gait_43 at h
      have L85 : ∀ (x2 : Int32) (x3 : Int32) (x4 : Int32) (x5 : Int32) (x6 : Int32) (x7 : Int32) (t0 : Int32) (S : zT) (H : Heap) (locs : List Loc) (ls : Array Slot), va_P (dC, dI) vwCl (zWd cI cW q S) H → va_S (zA cW q) s.heap H locs → lv_has ls 9 [(0, .ref (q 0)), (2, .int x2), (3, .int x3), (4, .int x4), (5, .int x5), (6, .int x6), (7, .int x7)] → (fX7_gait_85 (zfix (fun _ _ _ _ _ _ _ => none) fX7_gait_43 n43)) x2 x3 x4 x5 x6 x7 t0 S = some o → W p l e rmX7_gait s m args below meth c H locs 0 0 Q (F0 m 85 ls [.int t0]) := by
        intro x2 x3 x4 x5 x6 x7 t0 S H locs ls hP hS hl h
        unfold fX7_gait_85 at h
        refine lv_istore (lv' := [(8, .int t0), (0, .ref (q 0)), (2, .int x2), (3, .int x3), (4, .int x4), (5, .int x5), (6, .int x6), (7, .int x7)]) hx hb dX7_gait_85 hl (by decide) rfl (fun ls hl => ?_)
        refine lv_aload_n hx hb dX7_gait_87 rfl (lv_at hl 1 rfl) ?_
        refine z_get hx hb hU uU_X7 hown hK hP (p_0 hW) rfl rfl 0 (by decide) (hU _ uF_X7_12) rfl dX7_gait_88 ?_
        refine z_get hx hb hU uU_X6 hown hK hP (pW_1 hW).1 rfl rfl 9 (by decide) (hU _ uF_X7_108) rfl dX7_gait_91 ?_
        refine lv_iload hx hb dX7_gait_94 (lv_at hl 7 rfl) ?_
        refine lv_iload hx hb dX7_gait_96 (lv_at hl 0 rfl) ?_
        refine lv_bipush (v := 8) hx hb dX7_gait_98 rfl ?_
        refine lv_iload hx hb dX7_gait_100 (lv_at hl 7 rfl) ?_
        refine lv_iconst (v := 3) hx hb dX7_gait_102 rfl ?_
        refine lv_iand hx hb dX7_gait_103 ?_
        refine lv_imul hx hb dX7_gait_104 ?_
        refine lv_iushr (v := (zushr t0 (8 * (x7 &&& 3)))) hx hb dX7_gait_105 rfl ?_
        refine lv_aload_n hx hb dX7_gait_106 rfl (lv_at hl 1 rfl) ?_
        refine z_get hx hb hU uU_X7 hown hK hP (p_0 hW) rfl rfl 0 (by decide) (hU _ uF_X7_12) rfl dX7_gait_107 ?_
        refine z_callV_i hx hb hml hown hU hK hN hP hS 0 (pW_1 hW).1 rfl rfl (zU_V uL_X7_111 uI_X6_fullSet uS_X6_fullSet uN_X6 uC_X6_fullSet) yd_X6_fullSet ⟨rfl, rfl⟩ ⟨Nat.le_of_ble_eq_true rfl, Nat.le_of_ble_eq_true rfl⟩ (As := []) (fun o h9 => ctX6_fullSet hq (pW_1 hW) h9) rfl hl.1 rfl (Nat.le_of_ble_eq_true rfl) dX7_gait_110 ⟨Nat.zero_le _, Nat.zero_le _⟩ h (fun r_2 S_1 H locs hP hS h => ?_)
        refine lv_iand hx hb dX7_gait_113 ?_
        refine z_callV_v hx hb hml hown hU hK hN hP hS 2 (pW_1 hW).2.2.2.1 rfl rfl (zU_V uL_X7_86 uI_X2_put uS_X2_put uN_X2 uC_X2_put) yd_X2_put ⟨rfl, rfl⟩ ⟨Nat.le_of_ble_eq_true rfl, Nat.le_of_ble_eq_true rfl⟩ (As := [.int x7, .int ((zushr t0 (8 * (x7 &&& 3))) &&& r_2)]) (fun o h9 => ctX2_put hq (pW_1 hW).2.2.2 h9) rfl hl.1 rfl (Nat.le_of_ble_eq_true rfl) dX7_gait_114 ⟨Nat.zero_le _, Nat.zero_le _⟩ h (fun S_3 H locs hP hS h => ?_)
        refine lv_iinc (v := (x7 + 1)) (lv' := [(7, .int (x7 + 1)), (8, .int t0), (0, .ref (q 0)), (2, .int x2), (3, .int x3), (4, .int x4), (5, .int x5), (6, .int x6)]) hx hb dX7_gait_117 hl (k := 7) rfl rfl (by decide) rfl (fun ls hl => ?_)
        refine lv_goto (tgt := 43) hx hb dX7_gait_120 (by decide) ?_
        exact ih43 x2 x3 x4 x5 x6 (x7 + 1) _ _ _ ls hP hS (lv_sub hl [2, 3, 4, 5, 6, 7, 0] rfl) h
      refine lv_iload hx hb dX7_gait_43 (lv_at hl 6 rfl) ?_
      refine lv_iload_n hx hb dX7_gait_45 rfl (lv_at hl 1 rfl) ?_
      refine z_icmp_ge (tgt := 123) hx hb dX7_gait_46 (by decide) h (fun h => ?_) (fun h => ?_)
      · refine lv_iload_n hx hb dX7_gait_123 rfl (lv_at hl 1 rfl) ?_
        exact z_iret hx hb hlocks hP hS hQ hr dX7_gait_124 h
      · refine lv_iload hx hb dX7_gait_49 (lv_at hl 6 rfl) ?_
        refine lv_iconst (v := 4) hx hb dX7_gait_51 rfl ?_
        refine z_icmp_ge (tgt := 59) hx hb dX7_gait_52 (by decide) h (fun h => ?_) (fun h => ?_)
        · refine lv_iload hx hb dX7_gait_59 (lv_at hl 6 rfl) ?_
          refine lv_bipush (v := 8) hx hb dX7_gait_61 rfl ?_
          refine z_icmp_ge (tgt := 71) hx hb dX7_gait_63 (by decide) h (fun h => ?_) (fun h => ?_)
          · refine lv_iload hx hb dX7_gait_71 (lv_at hl 6 rfl) ?_
            refine lv_bipush (v := 12) hx hb dX7_gait_73 rfl ?_
            refine z_icmp_ge (tgt := 83) hx hb dX7_gait_75 (by decide) h (fun h => ?_) (fun h => ?_)
            · refine lv_iload hx hb dX7_gait_83 (lv_at hl 5 rfl) ?_
              exact L85 x2 x3 x4 x5 x6 x7 x6 _ _ _ ls hP hS (lv_sub hl [0, 1, 2, 3, 4, 5, 6] rfl) h
            · refine lv_iload hx hb dX7_gait_78 (lv_at hl 4 rfl) ?_
              refine lv_goto (tgt := 85) hx hb dX7_gait_80 (by decide) ?_
              exact L85 x2 x3 x4 x5 x6 x7 x5 _ _ _ ls hP hS (lv_sub hl [0, 1, 2, 3, 4, 5, 6] rfl) h
          · refine lv_iload hx hb dX7_gait_66 (lv_at hl 3 rfl) ?_
            refine lv_goto (tgt := 85) hx hb dX7_gait_68 (by decide) ?_
            exact L85 x2 x3 x4 x5 x6 x7 x4 _ _ _ ls hP hS (lv_sub hl [0, 1, 2, 3, 4, 5, 6] rfl) h
        · refine lv_iload_n hx hb dX7_gait_55 rfl (lv_at hl 2 rfl) ?_
          refine lv_goto (tgt := 85) hx hb dX7_gait_56 (by decide) ?_
          exact L85 x2 x3 x4 x5 x6 x7 x3 _ _ _ ls hP hS (lv_sub hl [0, 1, 2, 3, 4, 5, 6] rfl) h
  refine lv_iload_n hx hb dX7_gait_0 rfl (lv_at hl 1 rfl) ?_
  refine lv_iconst (v := 0) hx hb dX7_gait_1 rfl ?_
  refine lv_iconst (v := 2) hx hb dX7_gait_2 rfl ?_
  refine z_callS_i hx hb hml hown hU hK hN hP hS 3 (zU_J uL_X7_63 uT_X7_isWithin uN_X7 uC_X7_isWithin) yd_X7_isWithin ⟨rfl, rfl⟩ ⟨Nat.le_of_ble_eq_true rfl, Nat.le_of_ble_eq_true rfl⟩ (As := [.int a1, .int 0, .int 2]) (fun o h9 => ctX7_isWithin hq  h9) rfl hl.1 rfl (Nat.le_of_ble_eq_true rfl) dX7_gait_3 ⟨Nat.zero_le _, Nat.zero_le _⟩ h (fun r_5 S_4 H locs hP hS h => ?_)
  refine z_if_eq (tgt := 19) hx hb dX7_gait_6 (by decide) h (fun h => ?_) (fun h => ?_)
  · refine lv_iconst (v := (-1)) hx hb dX7_gait_19 rfl ?_
    exact z_iret hx hb hlocks hP hS hQ hr dX7_gait_20 h
  · refine lv_iload_n hx hb dX7_gait_9 rfl (lv_at hl 2 rfl) ?_
    refine lv_iconst (v := 1) hx hb dX7_gait_10 rfl ?_
    refine lv_bipush (v := 16) hx hb dX7_gait_11 rfl ?_
    refine z_callS_i hx hb hml hown hU hK hN hP hS 3 (zU_J uL_X7_63 uT_X7_isWithin uN_X7 uC_X7_isWithin) yd_X7_isWithin ⟨rfl, rfl⟩ ⟨Nat.le_of_ble_eq_true rfl, Nat.le_of_ble_eq_true rfl⟩ (As := [.int a2, .int 1, .int 16]) (fun o h9 => ctX7_isWithin hq  h9) rfl hl.1 rfl (Nat.le_of_ble_eq_true rfl) dX7_gait_13 ⟨Nat.zero_le _, Nat.zero_le _⟩ h (fun r_7 S_6 H locs hP hS h => ?_)
    refine z_if_ne (tgt := 21) hx hb dX7_gait_16 (by decide) h (fun h => ?_) (fun h => ?_)
    · refine lv_aload_n hx hb dX7_gait_21 rfl (lv_at hl 0 rfl) ?_
      refine z_get hx hb hU uU_X7 hown hK hP (p_0 hW) rfl rfl 1 (by decide) (hU _ uF_X7_19) rfl dX7_gait_22 ?_
      refine lv_aload_n hx hb dX7_gait_25 rfl (lv_at hl 0 rfl) ?_
      refine z_get hx hb hU uU_X7 hown hK hP (p_0 hW) rfl rfl 0 (by decide) (hU _ uF_X7_12) rfl dX7_gait_26 ?_
      refine z_callV_v hx hb hml hown hU hK hN hP hS 1 (p_8 hW) rfl rfl (zU_V uL_X7_67 uI_X0_keep uS_X0_keep uN_X0 uC_X0_keep) yd_X0_keep ⟨rfl, rfl⟩ ⟨Nat.le_of_ble_eq_true rfl, Nat.le_of_ble_eq_true rfl⟩ (As := [.ref (q 1)]) (fun o h9 => ctX0_keep hq hW (pW_1 hW) h9) rfl hl.1 rfl (Nat.le_of_ble_eq_true rfl) dX7_gait_29 ⟨Nat.zero_le _, Nat.zero_le _⟩ h (fun S_8 H locs hP hS h => ?_)
      refine lv_aload_n hx hb dX7_gait_32 rfl (lv_at hl 0 rfl) ?_
      refine z_get hx hb hU uU_X7 hown hK hP (p_0 hW) rfl rfl 0 (by decide) (hU _ uF_X7_12) rfl dX7_gait_33 ?_
      refine lv_iload_n hx hb dX7_gait_36 rfl (lv_at hl 2 rfl) ?_
      refine z_puti hx hb hU uU_X6 tyX6 tyX6_ok nmX6 hown hq hK hP hS (pW_1 hW).1 rfl rfl 6 (by decide) (hU _ uF_X7_105) rfl rfl rfl (Nat.le_of_ble_eq_true rfl) rfl dX7_gait_37 h (fun S_9 H locs hP hS h => ?_)
      refine lv_iconst (v := 0) hx hb dX7_gait_40 rfl ?_
      refine lv_istore (lv' := [(7, .int 0), (0, .ref (q 0)), (1, .int a1), (2, .int a2), (3, .int a3), (4, .int a4), (5, .int a5), (6, .int a6)]) hx hb dX7_gait_41 hl (by decide) rfl (fun ls hl => ?_)
      exact L43 zF a2 a3 a4 a5 a6 0 _ _ _ ls hP hS (lv_sub hl [1, 3, 4, 5, 6, 7, 0] rfl) h
    · refine lv_iconst (v := (-1)) hx hb dX7_gait_19 rfl ?_
      exact z_iret hx hb hlocks hP hS hQ hr dX7_gait_20 h

def fX6_hasTick (b : Nat) (a1 : Int32) (S : zT) : Option (Int32 × zT) :=
  (if a1 < 0 then some (0, S) else (if (S.1 b 6) ≤ a1 then some (0, S) else some (1, S)))
abbrev rmX6_hasTick : Room := { frames := 0, cells := 0, slots := 0, locals := 0 }
theorem yd_X6_hasTick : yX6_hasTick.cls = RX6 ∧ yX6_hasTick.cls ≠ "java/lang/invoke/MethodHandle" ∧ yX6_hasTick.cls ≠ "java/lang/invoke/VarHandle" ∧ (parseMethodDescriptor yX6_hasTick.desc).map (fun d => d.parameters.length) = some 1 := by decide +kernel
set_option maxRecDepth 100000 in
set_option maxHeartbeats 4000000 in
theorem ctX6_hasTick {l : Launch} {dC : Nat → ClassId} {dI : Nat → Nat → Nat} {cI : ClassId × ClassId} {cW : List zSh} {q : Nat → Nat} (hq : zI cW q) {b : Nat} (hb0 : isWk cI cW b) {a1 : Int32} {S : zT} {o : Int32 × zT} (h : fX6_hasTick b a1 S = some o) : zCi l dC dI cI cW q yX6_hasTick (Cond.code yX6_hasTick cX6_hasTick 2 (some .boolean) :: zU) rmX6_hasTick [.ref (q b), .int a1] S o := by
  refine zMet_i (lv := [(0, .ref (q b)), (1, .int a1)]) (by decide) (Nat.le_of_ble_eq_true rfl) rfl ?_
  intro p e s m args below meth c Q hx hb hml hr hU hown hlocks hK hN hP hS ls hl hQ
  replace hown : s.vm.findClass RX6 = some m.cls := hown
  unfold fX6_hasTick at h
  refine lv_iload_n hx hb dX6_hasTick_0 rfl (lv_at hl 1 rfl) ?_
  refine z_if_lt (tgt := 16) hx hb dX6_hasTick_1 (by decide) h (fun h => ?_) (fun h => ?_)
  · refine lv_iconst (v := 0) hx hb dX6_hasTick_16 rfl ?_
    exact z_zretC hx hb hlocks hP hS hQ hr dX6_hasTick_17 (Or.inl rfl) h
  · refine lv_iload_n hx hb dX6_hasTick_4 rfl (lv_at hl 1 rfl) ?_
    refine lv_aload_n hx hb dX6_hasTick_5 rfl (lv_at hl 0 rfl) ?_
    refine z_get hx hb hU uU_X6 hown hK hP hb0.1 rfl rfl 6 (by decide) (hU _ uF_X6_49) rfl dX6_hasTick_6 ?_
    refine z_icmp_ge (tgt := 16) hx hb dX6_hasTick_9 (by decide) h (fun h => ?_) (fun h => ?_)
    · refine lv_iconst (v := 0) hx hb dX6_hasTick_16 rfl ?_
      exact z_zretC hx hb hlocks hP hS hQ hr dX6_hasTick_17 (Or.inl rfl) h
    · refine lv_iconst (v := 1) hx hb dX6_hasTick_12 rfl ?_
      refine lv_goto (tgt := 17) hx hb dX6_hasTick_13 (by decide) ?_
      exact z_zretC hx hb hlocks hP hS hQ hr dX6_hasTick_17 (Or.inr rfl) h

def fX6_hasSet (b : Nat) (a1 : Int32) (S : zT) : Option (Int32 × zT) :=
  (if a1 < 0 then some (0, S) else zbi (fX6_fullSet b S) fun r_2 S_1 =>
  (if r_2 < a1 then some (0, S_1) else some (1, S_1)))
abbrev rmX6_hasSet : Room := { frames := 1, cells := 0, slots := 0, locals := 20 }
theorem yd_X6_hasSet : yX6_hasSet.cls = RX6 ∧ yX6_hasSet.cls ≠ "java/lang/invoke/MethodHandle" ∧ yX6_hasSet.cls ≠ "java/lang/invoke/VarHandle" ∧ (parseMethodDescriptor yX6_hasSet.desc).map (fun d => d.parameters.length) = some 1 := by decide +kernel
set_option maxRecDepth 100000 in
set_option maxHeartbeats 4000000 in
theorem ctX6_hasSet {l : Launch} {dC : Nat → ClassId} {dI : Nat → Nat → Nat} {cI : ClassId × ClassId} {cW : List zSh} {q : Nat → Nat} (hq : zI cW q) {b : Nat} (hb0 : isWk cI cW b) {a1 : Int32} {S : zT} {o : Int32 × zT} (h : fX6_hasSet b a1 S = some o) : zCi l dC dI cI cW q yX6_hasSet (Cond.code yX6_hasSet cX6_hasSet 2 (some .boolean) :: zU) rmX6_hasSet [.ref (q b), .int a1] S o := by
  refine zMet_i (lv := [(0, .ref (q b)), (1, .int a1)]) (by decide) (Nat.le_of_ble_eq_true rfl) rfl ?_
  intro p e s m args below meth c Q hx hb hml hr hU hown hlocks hK hN hP hS ls hl hQ
  replace hown : s.vm.findClass RX6 = some m.cls := hown
  unfold fX6_hasSet at h
  refine lv_iload_n hx hb dX6_hasSet_0 rfl (lv_at hl 1 rfl) ?_
  refine z_if_lt (tgt := 16) hx hb dX6_hasSet_1 (by decide) h (fun h => ?_) (fun h => ?_)
  · refine lv_iconst (v := 0) hx hb dX6_hasSet_16 rfl ?_
    exact z_zretC hx hb hlocks hP hS hQ hr dX6_hasSet_17 (Or.inl rfl) h
  · refine lv_iload_n hx hb dX6_hasSet_4 rfl (lv_at hl 1 rfl) ?_
    refine lv_aload_n hx hb dX6_hasSet_5 rfl (lv_at hl 0 rfl) ?_
    refine z_callV_i hx hb hml hown hU hK hN hP hS 0 hb0.1 rfl rfl (zU_V uL_X6_52 uI_X6_fullSet uS_X6_fullSet uN_X6 uC_X6_fullSet) yd_X6_fullSet ⟨rfl, rfl⟩ ⟨Nat.le_of_ble_eq_true rfl, Nat.le_of_ble_eq_true rfl⟩ (As := []) (fun o h9 => ctX6_fullSet hq hb0 h9) rfl hl.1 rfl (Nat.le_of_ble_eq_true rfl) dX6_hasSet_6 ⟨Nat.zero_le _, Nat.zero_le _⟩ h (fun r_2 S_1 H locs hP hS h => ?_)
    refine z_icmp_gt (tgt := 16) hx hb dX6_hasSet_9 (by decide) h (fun h => ?_) (fun h => ?_)
    · refine lv_iconst (v := 0) hx hb dX6_hasSet_16 rfl ?_
      exact z_zretC hx hb hlocks hP hS hQ hr dX6_hasSet_17 (Or.inl rfl) h
    · refine lv_iconst (v := 1) hx hb dX6_hasSet_12 rfl ?_
      refine lv_goto (tgt := 17) hx hb dX6_hasSet_13 (by decide) ?_
      exact z_zretC hx hb hlocks hP hS hQ hr dX6_hasSet_17 (Or.inr rfl) h

