def fJ6_bitCount_0f7a4 (a0 : Int32) (S : zT) : Option (Int32 × zT) :=
  some (((((((((a0 - ((zushr a0 1) &&& 1431655765)) &&& 858993459) + ((zushr (a0 - ((zushr a0 1) &&& 1431655765)) 2) &&& 858993459)) + (zushr (((a0 - ((zushr a0 1) &&& 1431655765)) &&& 858993459) + ((zushr (a0 - ((zushr a0 1) &&& 1431655765)) 2) &&& 858993459)) 4)) &&& 252645135) + (zushr (((((a0 - ((zushr a0 1) &&& 1431655765)) &&& 858993459) + ((zushr (a0 - ((zushr a0 1) &&& 1431655765)) 2) &&& 858993459)) + (zushr (((a0 - ((zushr a0 1) &&& 1431655765)) &&& 858993459) + ((zushr (a0 - ((zushr a0 1) &&& 1431655765)) 2) &&& 858993459)) 4)) &&& 252645135) 8)) + (zushr ((((((a0 - ((zushr a0 1) &&& 1431655765)) &&& 858993459) + ((zushr (a0 - ((zushr a0 1) &&& 1431655765)) 2) &&& 858993459)) + (zushr (((a0 - ((zushr a0 1) &&& 1431655765)) &&& 858993459) + ((zushr (a0 - ((zushr a0 1) &&& 1431655765)) 2) &&& 858993459)) 4)) &&& 252645135) + (zushr (((((a0 - ((zushr a0 1) &&& 1431655765)) &&& 858993459) + ((zushr (a0 - ((zushr a0 1) &&& 1431655765)) 2) &&& 858993459)) + (zushr (((a0 - ((zushr a0 1) &&& 1431655765)) &&& 858993459) + ((zushr (a0 - ((zushr a0 1) &&& 1431655765)) 2) &&& 858993459)) 4)) &&& 252645135) 8)) 16)) &&& 63), S)
abbrev rmJ6_bitCount_0f7a4 : Room := { frames := 0, cells := 0, slots := 0, locals := 0 }
theorem yd_J6_bitCount_0f7a4 : yJ6_bitCount_0f7a4.cls ≠ "java/lang/invoke/MethodHandle" ∧ yJ6_bitCount_0f7a4.cls ≠ "java/lang/invoke/VarHandle" ∧ (parseMethodDescriptor yJ6_bitCount_0f7a4.desc).map (fun d => d.parameters.length) = some 1 := by decide +kernel
set_option maxRecDepth 100000 in
set_option maxHeartbeats 4000000 in
theorem ctJ6_bitCount_0f7a4 {l : Launch} {dC : Nat → ClassId} {dI : Nat → Nat → Nat} {cI : ClassId × ClassId} {cW : List zSh} {q : Nat → Nat} (hq : zI cW q) {a0 : Int32} {S : zT} {o : Int32 × zT} (h : fJ6_bitCount_0f7a4 a0 S = some o) : zCi l dC dI cI cW q yJ6_bitCount_0f7a4 (Cond.code yJ6_bitCount_0f7a4 cJ6_bitCount_0f7a4 1 (some .int) :: zU) rmJ6_bitCount_0f7a4 [.int a0] S o := by
  refine zMet_i (lv := [(0, .int a0)]) (by decide) (Nat.le_of_ble_eq_true rfl) rfl ?_
  intro p e s m args below meth c Q hx hb hml hr hU hown hlocks hK hN hP hS ls hl hQ
  replace hown : s.vm.findClass RJ6 = some m.cls := hown
  unfold fJ6_bitCount_0f7a4 at h
  refine lv_iload_n hx hb dJ6_bitCount_0f7a4_0 rfl (lv_at hl 0 rfl) ?_
  refine lv_iload_n hx hb dJ6_bitCount_0f7a4_1 rfl (lv_at hl 0 rfl) ?_
  refine lv_iconst (v := 1) hx hb dJ6_bitCount_0f7a4_2 rfl ?_
  refine lv_iushr (v := (zushr a0 1)) hx hb dJ6_bitCount_0f7a4_3 rfl ?_
  refine lv_ldcw (v := 1431655765) hx hb hown (hU _ uK_J6_265) dJ6_bitCount_0f7a4_4 ?_
  refine lv_iand hx hb dJ6_bitCount_0f7a4_7 ?_
  refine lv_isub hx hb dJ6_bitCount_0f7a4_8 ?_
  refine lv_istore_n (lv' := [(0, .int (a0 - ((zushr a0 1) &&& 1431655765)))]) hx hb dJ6_bitCount_0f7a4_9 rfl hl (by decide) rfl (fun ls hl => ?_)
  refine lv_iload_n hx hb dJ6_bitCount_0f7a4_10 rfl (lv_at hl 0 rfl) ?_
  refine lv_ldcw (v := 858993459) hx hb hown (hU _ uK_J6_266) dJ6_bitCount_0f7a4_11 ?_
  refine lv_iand hx hb dJ6_bitCount_0f7a4_14 ?_
  refine lv_iload_n hx hb dJ6_bitCount_0f7a4_15 rfl (lv_at hl 0 rfl) ?_
  refine lv_iconst (v := 2) hx hb dJ6_bitCount_0f7a4_16 rfl ?_
  refine lv_iushr (v := (zushr (a0 - ((zushr a0 1) &&& 1431655765)) 2)) hx hb dJ6_bitCount_0f7a4_17 rfl ?_
  refine lv_ldcw (v := 858993459) hx hb hown (hU _ uK_J6_266) dJ6_bitCount_0f7a4_18 ?_
  refine lv_iand hx hb dJ6_bitCount_0f7a4_21 ?_
  refine lv_iadd hx hb dJ6_bitCount_0f7a4_22 ?_
  refine lv_istore_n (lv' := [(0, .int (((a0 - ((zushr a0 1) &&& 1431655765)) &&& 858993459) + ((zushr (a0 - ((zushr a0 1) &&& 1431655765)) 2) &&& 858993459)))]) hx hb dJ6_bitCount_0f7a4_23 rfl hl (by decide) rfl (fun ls hl => ?_)
  refine lv_iload_n hx hb dJ6_bitCount_0f7a4_24 rfl (lv_at hl 0 rfl) ?_
  refine lv_iload_n hx hb dJ6_bitCount_0f7a4_25 rfl (lv_at hl 0 rfl) ?_
  refine lv_iconst (v := 4) hx hb dJ6_bitCount_0f7a4_26 rfl ?_
  refine lv_iushr (v := (zushr (((a0 - ((zushr a0 1) &&& 1431655765)) &&& 858993459) + ((zushr (a0 - ((zushr a0 1) &&& 1431655765)) 2) &&& 858993459)) 4)) hx hb dJ6_bitCount_0f7a4_27 rfl ?_
  refine lv_iadd hx hb dJ6_bitCount_0f7a4_28 ?_
  refine lv_ldcw (v := 252645135) hx hb hown (hU _ uK_J6_267) dJ6_bitCount_0f7a4_29 ?_
  refine lv_iand hx hb dJ6_bitCount_0f7a4_32 ?_
  refine lv_istore_n (lv' := [(0, .int (((((a0 - ((zushr a0 1) &&& 1431655765)) &&& 858993459) + ((zushr (a0 - ((zushr a0 1) &&& 1431655765)) 2) &&& 858993459)) + (zushr (((a0 - ((zushr a0 1) &&& 1431655765)) &&& 858993459) + ((zushr (a0 - ((zushr a0 1) &&& 1431655765)) 2) &&& 858993459)) 4)) &&& 252645135))]) hx hb dJ6_bitCount_0f7a4_33 rfl hl (by decide) rfl (fun ls hl => ?_)
  refine lv_iload_n hx hb dJ6_bitCount_0f7a4_34 rfl (lv_at hl 0 rfl) ?_
  refine lv_iload_n hx hb dJ6_bitCount_0f7a4_35 rfl (lv_at hl 0 rfl) ?_
  refine lv_bipush (v := 8) hx hb dJ6_bitCount_0f7a4_36 rfl ?_
  refine lv_iushr (v := (zushr (((((a0 - ((zushr a0 1) &&& 1431655765)) &&& 858993459) + ((zushr (a0 - ((zushr a0 1) &&& 1431655765)) 2) &&& 858993459)) + (zushr (((a0 - ((zushr a0 1) &&& 1431655765)) &&& 858993459) + ((zushr (a0 - ((zushr a0 1) &&& 1431655765)) 2) &&& 858993459)) 4)) &&& 252645135) 8)) hx hb dJ6_bitCount_0f7a4_38 rfl ?_
  refine lv_iadd hx hb dJ6_bitCount_0f7a4_39 ?_
  refine lv_istore_n (lv' := [(0, .int ((((((a0 - ((zushr a0 1) &&& 1431655765)) &&& 858993459) + ((zushr (a0 - ((zushr a0 1) &&& 1431655765)) 2) &&& 858993459)) + (zushr (((a0 - ((zushr a0 1) &&& 1431655765)) &&& 858993459) + ((zushr (a0 - ((zushr a0 1) &&& 1431655765)) 2) &&& 858993459)) 4)) &&& 252645135) + (zushr (((((a0 - ((zushr a0 1) &&& 1431655765)) &&& 858993459) + ((zushr (a0 - ((zushr a0 1) &&& 1431655765)) 2) &&& 858993459)) + (zushr (((a0 - ((zushr a0 1) &&& 1431655765)) &&& 858993459) + ((zushr (a0 - ((zushr a0 1) &&& 1431655765)) 2) &&& 858993459)) 4)) &&& 252645135) 8)))]) hx hb dJ6_bitCount_0f7a4_40 rfl hl (by decide) rfl (fun ls hl => ?_)
  refine lv_iload_n hx hb dJ6_bitCount_0f7a4_41 rfl (lv_at hl 0 rfl) ?_
  refine lv_iload_n hx hb dJ6_bitCount_0f7a4_42 rfl (lv_at hl 0 rfl) ?_
  refine lv_bipush (v := 16) hx hb dJ6_bitCount_0f7a4_43 rfl ?_
  refine lv_iushr (v := (zushr ((((((a0 - ((zushr a0 1) &&& 1431655765)) &&& 858993459) + ((zushr (a0 - ((zushr a0 1) &&& 1431655765)) 2) &&& 858993459)) + (zushr (((a0 - ((zushr a0 1) &&& 1431655765)) &&& 858993459) + ((zushr (a0 - ((zushr a0 1) &&& 1431655765)) 2) &&& 858993459)) 4)) &&& 252645135) + (zushr (((((a0 - ((zushr a0 1) &&& 1431655765)) &&& 858993459) + ((zushr (a0 - ((zushr a0 1) &&& 1431655765)) 2) &&& 858993459)) + (zushr (((a0 - ((zushr a0 1) &&& 1431655765)) &&& 858993459) + ((zushr (a0 - ((zushr a0 1) &&& 1431655765)) 2) &&& 858993459)) 4)) &&& 252645135) 8)) 16)) hx hb dJ6_bitCount_0f7a4_45 rfl ?_
  refine lv_iadd hx hb dJ6_bitCount_0f7a4_46 ?_
  refine lv_istore_n (lv' := [(0, .int (((((((a0 - ((zushr a0 1) &&& 1431655765)) &&& 858993459) + ((zushr (a0 - ((zushr a0 1) &&& 1431655765)) 2) &&& 858993459)) + (zushr (((a0 - ((zushr a0 1) &&& 1431655765)) &&& 858993459) + ((zushr (a0 - ((zushr a0 1) &&& 1431655765)) 2) &&& 858993459)) 4)) &&& 252645135) + (zushr (((((a0 - ((zushr a0 1) &&& 1431655765)) &&& 858993459) + ((zushr (a0 - ((zushr a0 1) &&& 1431655765)) 2) &&& 858993459)) + (zushr (((a0 - ((zushr a0 1) &&& 1431655765)) &&& 858993459) + ((zushr (a0 - ((zushr a0 1) &&& 1431655765)) 2) &&& 858993459)) 4)) &&& 252645135) 8)) + (zushr ((((((a0 - ((zushr a0 1) &&& 1431655765)) &&& 858993459) + ((zushr (a0 - ((zushr a0 1) &&& 1431655765)) 2) &&& 858993459)) + (zushr (((a0 - ((zushr a0 1) &&& 1431655765)) &&& 858993459) + ((zushr (a0 - ((zushr a0 1) &&& 1431655765)) 2) &&& 858993459)) 4)) &&& 252645135) + (zushr (((((a0 - ((zushr a0 1) &&& 1431655765)) &&& 858993459) + ((zushr (a0 - ((zushr a0 1) &&& 1431655765)) 2) &&& 858993459)) + (zushr (((a0 - ((zushr a0 1) &&& 1431655765)) &&& 858993459) + ((zushr (a0 - ((zushr a0 1) &&& 1431655765)) 2) &&& 858993459)) 4)) &&& 252645135) 8)) 16)))]) hx hb dJ6_bitCount_0f7a4_47 rfl hl (by decide) rfl (fun ls hl => ?_)
  refine lv_iload_n hx hb dJ6_bitCount_0f7a4_48 rfl (lv_at hl 0 rfl) ?_
  refine lv_bipush (v := 63) hx hb dJ6_bitCount_0f7a4_49 rfl ?_
  refine lv_iand hx hb dJ6_bitCount_0f7a4_51 ?_
  exact z_iret hx hb hlocks hP hS hQ hr dJ6_bitCount_0f7a4_52 h

def fX7_reachFrom_71 (k15 : Int32 → Int32 → Int32 → Int32 → Int32 → Int32 → zT → Option (Int32 × zT)) (x1 : Int32) (x2 : Int32) (x3 : Int32) (x4 : Int32) (x5 : Int32) (x6 : Int32) (S : zT) : Option (Int32 × zT) :=
  k15 x1 x2 x3 x4 x5 (x6 + 1) S
def fX7_reachFrom_15 (rec : Int32 → Int32 → Int32 → Int32 → Int32 → Int32 → zT → Option (Int32 × zT)) (x1 : Int32) (x2 : Int32) (x3 : Int32) (x4 : Int32) (x5 : Int32) (x6 : Int32) (S : zT) : Option (Int32 × zT) :=
  (if x5 < x6 then if x4 = 0 ∨ x4 = 1 then some (x4, S) else none else zbi (fX2_at 99 256 x6 S) fun r_2 S_1 =>
  (if r_2 = (-1) then zbi (fX5_isSound x6 S_1) fun r_4 S_3 =>
  (if r_4 = 0 then (fX7_reachFrom_71 rec) x1 x2 x3 x4 x5 x6 S_3 else zbi (fJ6_bitCount_0f7a4 (x1 ^^^ x6) S_3) fun r_6 S_5 =>
  (if x3 < r_6 then (fX7_reachFrom_71 rec) x1 x2 x3 x4 x5 x6 S_5 else zbv (fX2_put 99 256 x6 x2 S_5) fun S_7 =>
  (fX7_reachFrom_71 rec) x1 x2 x3 1 x5 x6 S_7)) else (fX7_reachFrom_71 rec) x1 x2 x3 x4 x5 x6 S_1))
def fX7_reachFrom (a1 : Int32) (a2 : Int32) (a3 : Int32) (S : zT) : Option (Int32 × zT) :=
  zbi (fX6_fullSet 68 S) fun r_9 S_8 =>
  (zfix (fun _ _ _ _ _ _ _ => none) fX7_reachFrom_15 zF) a1 a2 a3 0 r_9 0 S_8
abbrev rmX7_reachFrom : Room := { frames := 2, cells := 0, slots := 0, locals := 42 }
theorem yd_X7_reachFrom : yX7_reachFrom.cls = RX7 ∧ yX7_reachFrom.cls ≠ "java/lang/invoke/MethodHandle" ∧ yX7_reachFrom.cls ≠ "java/lang/invoke/VarHandle" ∧ (parseMethodDescriptor yX7_reachFrom.desc).map (fun d => d.parameters.length) = some 3 := by decide +kernel
set_option maxRecDepth 100000 in
set_option maxHeartbeats 4000000 in
theorem ctX7_reachFrom {l : Launch} {dC : Nat → ClassId} {dI : Nat → Nat → Nat} {cI : ClassId × ClassId} {cW : List zSh} {q : Nat → Nat} (hq : zI cW q) (hW : zIs cI cW) {a1 : Int32} {a2 : Int32} {a3 : Int32} {S : zT} {o : Int32 × zT} (h : fX7_reachFrom a1 a2 a3 S = some o) : zCi l dC dI cI cW q yX7_reachFrom (Cond.code yX7_reachFrom cX7_reachFrom 7 (some .boolean) :: zU) rmX7_reachFrom [.ref (q 0), .int a1, .int a2, .int a3] S o := by
  refine zMet_i (lv := [(0, .ref (q 0)), (1, .int a1), (2, .int a2), (3, .int a3)]) (by decide) (Nat.le_of_ble_eq_true rfl) rfl ?_
  intro p e s m args below meth c Q hx hb hml hr hU hown hlocks hK hN hP hS ls hl hQ
  replace hown : s.vm.findClass RX7 = some m.cls := hown
  unfold fX7_reachFrom at h
  have L15 : ∀ (n15 : Nat) (x1 : Int32) (x2 : Int32) (x3 : Int32) (x4 : Int32) (x5 : Int32) (x6 : Int32) (S : zT) (H : Heap) (locs : List Loc) (ls : Array Slot), va_P (dC, dI) vwCl (zWd cI cW q S) H → va_S (zA cW q) s.heap H locs → lv_has ls 7 [(0, .ref (q 0)), (1, .int x1), (2, .int x2), (3, .int x3), (4, .int x4), (5, .int x5), (6, .int x6)] → (zfix (fun _ _ _ _ _ _ _ => none) fX7_reachFrom_15 n15) x1 x2 x3 x4 x5 x6 S = some o → W p l e rmX7_reachFrom s m args below meth c H locs 0 0 Q (F0 m 15 ls []) := by
    intro n15
    induction n15 with
    | zero => intro x1 x2 x3 x4 x5 x6 S H locs ls hP hS hl h; exact zno (show (none : Option (Int32 × zT)) = some o from h)
    | succ n15 ih15 =>
      intro x1 x2 x3 x4 x5 x6 S H locs ls hP hS hl h
      replace h : fX7_reachFrom_15 (zfix (fun _ _ _ _ _ _ _ => none) fX7_reachFrom_15 n15) x1 x2 x3 x4 x5 x6 S = some o := h
      unfold fX7_reachFrom_15 at h
      have L71 : ∀ (x1 : Int32) (x2 : Int32) (x3 : Int32) (x4 : Int32) (x5 : Int32) (x6 : Int32) (S : zT) (H : Heap) (locs : List Loc) (ls : Array Slot), va_P (dC, dI) vwCl (zWd cI cW q S) H → va_S (zA cW q) s.heap H locs → lv_has ls 7 [(0, .ref (q 0)), (1, .int x1), (2, .int x2), (3, .int x3), (4, .int x4), (5, .int x5), (6, .int x6)] → (fX7_reachFrom_71 (zfix (fun _ _ _ _ _ _ _ => none) fX7_reachFrom_15 n15)) x1 x2 x3 x4 x5 x6 S = some o → W p l e rmX7_reachFrom s m args below meth c H locs 0 0 Q (F0 m 71 ls []) := by
        intro x1 x2 x3 x4 x5 x6 S H locs ls hP hS hl h
        unfold fX7_reachFrom_71 at h
        refine lv_iinc (v := (x6 + 1)) (lv' := [(6, .int (x6 + 1)), (0, .ref (q 0)), (1, .int x1), (2, .int x2), (3, .int x3), (4, .int x4), (5, .int x5)]) hx hb dX7_reachFrom_71 hl (k := 6) rfl rfl (by decide) rfl (fun ls hl => ?_)
        refine lv_goto (tgt := 15) hx hb dX7_reachFrom_74 (by decide) ?_
        exact ih15 x1 x2 x3 x4 x5 (x6 + 1) _ _ _ ls hP hS (lv_sub hl [1, 2, 3, 4, 5, 6, 0] rfl) h
      refine lv_iload hx hb dX7_reachFrom_15 (lv_at hl 6 rfl) ?_
      refine lv_iload hx hb dX7_reachFrom_17 (lv_at hl 5 rfl) ?_
      refine z_icmp_gt (tgt := 77) hx hb dX7_reachFrom_19 (by decide) h (fun h => ?_) (fun h => ?_)
      · refine lv_iload hx hb dX7_reachFrom_77 (lv_at hl 4 rfl) ?_
        exact z_zret hx hb hlocks hP hS hQ hr dX7_reachFrom_79 h
      · refine lv_aload_n hx hb dX7_reachFrom_22 rfl (lv_at hl 0 rfl) ?_
        refine z_get hx hb hU uU_X7 hown hK hP (p_0 hW) rfl rfl 6 (by decide) (hU _ uF_X7_55) rfl dX7_reachFrom_23 ?_
        refine lv_iload hx hb dX7_reachFrom_26 (lv_at hl 6 rfl) ?_
        refine z_callV_i hx hb hml hown hU hK hN hP hS 1 (pR_99 hW).1 rfl rfl (zU_V uL_X7_145 uI_X2_at uS_X2_at uN_X2 uC_X2_at) yd_X2_at ⟨rfl, rfl⟩ ⟨Nat.le_of_ble_eq_true rfl, Nat.le_of_ble_eq_true rfl⟩ (As := [.int x6]) (fun o h9 => ctX2_at hq (pR_99 hW) h9) rfl hl.1 rfl (Nat.le_of_ble_eq_true rfl) dX7_reachFrom_28 ⟨Nat.zero_le _, Nat.zero_le _⟩ h (fun r_2 S_1 H locs hP hS h => ?_)
        refine lv_iconst (v := (-1)) hx hb dX7_reachFrom_31 rfl ?_
        refine z_icmp_ne (tgt := 71) hx hb dX7_reachFrom_32 (by decide) h (fun h => ?_) (fun h => ?_)
        · exact L71 x1 x2 x3 x4 x5 x6 _ _ _ ls hP hS (lv_sub hl [0, 1, 2, 3, 4, 5, 6] rfl) h
        · refine lv_aload_n hx hb dX7_reachFrom_35 rfl (lv_at hl 0 rfl) ?_
          refine z_get hx hb hU uU_X7 hown hK hP (p_0 hW) rfl rfl 3 (by decide) (hU _ uF_X7_34) rfl dX7_reachFrom_36 ?_
          refine lv_iload hx hb dX7_reachFrom_39 (lv_at hl 6 rfl) ?_
          refine z_callV_i hx hb hml hown hU hK hN hP hS 1 (p_67 hW) rfl rfl (zU_V uL_X7_223 uI_X5_isSound uS_X5_isSound uN_X5 uC_X5_isSound) yd_X5_isSound ⟨rfl, rfl⟩ ⟨Nat.le_of_ble_eq_true rfl, Nat.le_of_ble_eq_true rfl⟩ (As := [.int x6]) (fun o h9 => ctX5_isSound hq hW h9) rfl hl.1 rfl (Nat.le_of_ble_eq_true rfl) dX7_reachFrom_41 ⟨Nat.zero_le _, Nat.zero_le _⟩ h (fun r_4 S_3 H locs hP hS h => ?_)
          refine z_if_eq (tgt := 71) hx hb dX7_reachFrom_44 (by decide) h (fun h => ?_) (fun h => ?_)
          · exact L71 x1 x2 x3 x4 x5 x6 _ _ _ ls hP hS (lv_sub hl [0, 1, 2, 3, 4, 5, 6] rfl) h
          · refine lv_iload_n hx hb dX7_reachFrom_47 rfl (lv_at hl 1 rfl) ?_
            refine lv_iload hx hb dX7_reachFrom_48 (lv_at hl 6 rfl) ?_
            refine lv_ixor hx hb dX7_reachFrom_50 ?_
            refine z_callS_i hx hb hml hown hU hK hN hP hS 1 (zU_J uL_X7_257 uT_J6_bitCount_0f7a4 uN_J6 uC_J6_bitCount_0f7a4) yd_J6_bitCount_0f7a4 ⟨rfl, rfl⟩ ⟨Nat.le_of_ble_eq_true rfl, Nat.le_of_ble_eq_true rfl⟩ (As := [.int (x1 ^^^ x6)]) (fun o h9 => ctJ6_bitCount_0f7a4 hq  h9) rfl hl.1 rfl (Nat.le_of_ble_eq_true rfl) dX7_reachFrom_51 ⟨Nat.zero_le _, Nat.zero_le _⟩ h (fun r_6 S_5 H locs hP hS h => ?_)
            refine lv_iload_n hx hb dX7_reachFrom_54 rfl (lv_at hl 3 rfl) ?_
            refine z_icmp_gt (tgt := 71) hx hb dX7_reachFrom_55 (by decide) h (fun h => ?_) (fun h => ?_)
            · exact L71 x1 x2 x3 x4 x5 x6 _ _ _ ls hP hS (lv_sub hl [0, 1, 2, 3, 4, 5, 6] rfl) h
            · refine lv_aload_n hx hb dX7_reachFrom_58 rfl (lv_at hl 0 rfl) ?_
              refine z_get hx hb hU uU_X7 hown hK hP (p_0 hW) rfl rfl 6 (by decide) (hU _ uF_X7_55) rfl dX7_reachFrom_59 ?_
              refine lv_iload hx hb dX7_reachFrom_62 (lv_at hl 6 rfl) ?_
              refine lv_iload_n hx hb dX7_reachFrom_64 rfl (lv_at hl 2 rfl) ?_
              refine z_callV_v hx hb hml hown hU hK hN hP hS 2 (pR_99 hW).1 rfl rfl (zU_V uL_X7_86 uI_X2_put uS_X2_put uN_X2 uC_X2_put) yd_X2_put ⟨rfl, rfl⟩ ⟨Nat.le_of_ble_eq_true rfl, Nat.le_of_ble_eq_true rfl⟩ (As := [.int x6, .int x2]) (fun o h9 => ctX2_put hq (pR_99 hW) h9) rfl hl.1 rfl (Nat.le_of_ble_eq_true rfl) dX7_reachFrom_65 ⟨Nat.zero_le _, Nat.zero_le _⟩ h (fun S_7 H locs hP hS h => ?_)
              refine lv_iconst (v := 1) hx hb dX7_reachFrom_68 rfl ?_
              refine lv_istore (lv' := [(4, .int 1), (0, .ref (q 0)), (1, .int x1), (2, .int x2), (3, .int x3), (5, .int x5), (6, .int x6)]) hx hb dX7_reachFrom_69 hl (by decide) rfl (fun ls hl => ?_)
              exact L71 x1 x2 x3 1 x5 x6 _ _ _ ls hP hS (lv_sub hl [1, 2, 3, 4, 0, 5, 6] rfl) h
  refine lv_iconst (v := 0) hx hb dX7_reachFrom_0 rfl ?_
  refine lv_istore (lv' := [(4, .int 0), (0, .ref (q 0)), (1, .int a1), (2, .int a2), (3, .int a3)]) hx hb dX7_reachFrom_1 hl (by decide) rfl (fun ls hl => ?_)
  refine lv_aload_n hx hb dX7_reachFrom_3 rfl (lv_at hl 1 rfl) ?_
  refine z_get hx hb hU uU_X7 hown hK hP (p_0 hW) rfl rfl 4 (by decide) (hU _ uF_X7_40) rfl dX7_reachFrom_4 ?_
  refine z_callV_i hx hb hml hown hU hK hN hP hS 0 (pW_68 hW).1 rfl rfl (zU_V uL_X7_111 uI_X6_fullSet uS_X6_fullSet uN_X6 uC_X6_fullSet) yd_X6_fullSet ⟨rfl, rfl⟩ ⟨Nat.le_of_ble_eq_true rfl, Nat.le_of_ble_eq_true rfl⟩ (As := []) (fun o h9 => ctX6_fullSet hq (pW_68 hW) h9) rfl hl.1 rfl (Nat.le_of_ble_eq_true rfl) dX7_reachFrom_7 ⟨Nat.zero_le _, Nat.zero_le _⟩ h (fun r_9 S_8 H locs hP hS h => ?_)
  refine lv_istore (lv' := [(5, .int r_9), (4, .int 0), (0, .ref (q 0)), (1, .int a1), (2, .int a2), (3, .int a3)]) hx hb dX7_reachFrom_10 hl (by decide) rfl (fun ls hl => ?_)
  refine lv_iconst (v := 0) hx hb dX7_reachFrom_12 rfl ?_
  refine lv_istore (lv' := [(6, .int 0), (5, .int r_9), (4, .int 0), (0, .ref (q 0)), (1, .int a1), (2, .int a2), (3, .int a3)]) hx hb dX7_reachFrom_13 hl (by decide) rfl (fun ls hl => ?_)
  exact L15 zF a1 a2 a3 0 r_9 0 _ _ _ ls hP hS (lv_sub hl [3, 4, 5, 6, 2, 1, 0] rfl) h

def fX7_goFurther_49 (k14 : Int32 → Int32 → Int32 → Int32 → Int32 → zT → Option (Int32 × zT)) (x1 : Int32) (x2 : Int32) (x3 : Int32) (x4 : Int32) (x5 : Int32) (S : zT) : Option (Int32 × zT) :=
  k14 x1 x2 x3 x4 (x5 + 1) S
def fX7_goFurther_14 (rec : Int32 → Int32 → Int32 → Int32 → Int32 → zT → Option (Int32 × zT)) (x1 : Int32) (x2 : Int32) (x3 : Int32) (x4 : Int32) (x5 : Int32) (S : zT) : Option (Int32 × zT) :=
  (if x4 < x5 then if x3 = 0 ∨ x3 = 1 then some (x3, S) else none else zbi (fX2_at 99 256 x5 S) fun r_2 S_1 =>
  (if r_2 = x1 then zbi (fX7_reachFrom x5 (x1 + 1) x2 S_1) fun r_4 S_3 =>
  (if r_4 = 0 then (fX7_goFurther_49 rec) x1 x2 x3 x4 x5 S_3 else (fX7_goFurther_49 rec) x1 x2 1 x4 x5 S_3) else (fX7_goFurther_49 rec) x1 x2 x3 x4 x5 S_1))
def fX7_goFurther (a1 : Int32) (a2 : Int32) (S : zT) : Option (Int32 × zT) :=
  zbi (fX6_fullSet 68 S) fun r_6 S_5 =>
  (zfix (fun _ _ _ _ _ _ => none) fX7_goFurther_14 zF) a1 a2 0 r_6 0 S_5
abbrev rmX7_goFurther : Room := { frames := 3, cells := 0, slots := 0, locals := 68 }
theorem yd_X7_goFurther : yX7_goFurther.cls = RX7 ∧ yX7_goFurther.cls ≠ "java/lang/invoke/MethodHandle" ∧ yX7_goFurther.cls ≠ "java/lang/invoke/VarHandle" ∧ (parseMethodDescriptor yX7_goFurther.desc).map (fun d => d.parameters.length) = some 2 := by decide +kernel
set_option maxRecDepth 100000 in
set_option maxHeartbeats 4000000 in
theorem ctX7_goFurther {l : Launch} {dC : Nat → ClassId} {dI : Nat → Nat → Nat} {cI : ClassId × ClassId} {cW : List zSh} {q : Nat → Nat} (hq : zI cW q) (hW : zIs cI cW) {a1 : Int32} {a2 : Int32} {S : zT} {o : Int32 × zT} (h : fX7_goFurther a1 a2 S = some o) : zCi l dC dI cI cW q yX7_goFurther (Cond.code yX7_goFurther cX7_goFurther 6 (some .boolean) :: zU) rmX7_goFurther [.ref (q 0), .int a1, .int a2] S o := by
  refine zMet_i (lv := [(0, .ref (q 0)), (1, .int a1), (2, .int a2)]) (by decide) (Nat.le_of_ble_eq_true rfl) rfl ?_
  intro p e s m args below meth c Q hx hb hml hr hU hown hlocks hK hN hP hS ls hl hQ
  replace hown : s.vm.findClass RX7 = some m.cls := hown
  unfold fX7_goFurther at h
  have L14 : ∀ (n14 : Nat) (x1 : Int32) (x2 : Int32) (x3 : Int32) (x4 : Int32) (x5 : Int32) (S : zT) (H : Heap) (locs : List Loc) (ls : Array Slot), va_P (dC, dI) vwCl (zWd cI cW q S) H → va_S (zA cW q) s.heap H locs → lv_has ls 6 [(0, .ref (q 0)), (1, .int x1), (2, .int x2), (3, .int x3), (4, .int x4), (5, .int x5)] → (zfix (fun _ _ _ _ _ _ => none) fX7_goFurther_14 n14) x1 x2 x3 x4 x5 S = some o → W p l e rmX7_goFurther s m args below meth c H locs 0 0 Q (F0 m 14 ls []) := by
    intro n14
    induction n14 with
    | zero => intro x1 x2 x3 x4 x5 S H locs ls hP hS hl h; exact zno (show (none : Option (Int32 × zT)) = some o from h)
    | succ n14 ih14 =>
      intro x1 x2 x3 x4 x5 S H locs ls hP hS hl h
      replace h : fX7_goFurther_14 (zfix (fun _ _ _ _ _ _ => none) fX7_goFurther_14 n14) x1 x2 x3 x4 x5 S = some o := h
      unfold fX7_goFurther_14 at h
      have L49 : ∀ (x1 : Int32) (x2 : Int32) (x3 : Int32) (x4 : Int32) (x5 : Int32) (S : zT) (H : Heap) (locs : List Loc) (ls : Array Slot), va_P (dC, dI) vwCl (zWd cI cW q S) H → va_S (zA cW q) s.heap H locs → lv_has ls 6 [(0, .ref (q 0)), (1, .int x1), (2, .int x2), (3, .int x3), (4, .int x4), (5, .int x5)] → (fX7_goFurther_49 (zfix (fun _ _ _ _ _ _ => none) fX7_goFurther_14 n14)) x1 x2 x3 x4 x5 S = some o → W p l e rmX7_goFurther s m args below meth c H locs 0 0 Q (F0 m 49 ls []) := by
        intro x1 x2 x3 x4 x5 S H locs ls hP hS hl h
        unfold fX7_goFurther_49 at h
        refine lv_iinc (v := (x5 + 1)) (lv' := [(5, .int (x5 + 1)), (0, .ref (q 0)), (1, .int x1), (2, .int x2), (3, .int x3), (4, .int x4)]) hx hb dX7_goFurther_49 hl (k := 5) rfl rfl (by decide) rfl (fun ls hl => ?_)
        refine lv_goto (tgt := 14) hx hb dX7_goFurther_52 (by decide) ?_
        exact ih14 x1 x2 x3 x4 (x5 + 1) _ _ _ ls hP hS (lv_sub hl [1, 2, 3, 4, 5, 0] rfl) h
      refine lv_iload hx hb dX7_goFurther_14 (lv_at hl 5 rfl) ?_
      refine lv_iload hx hb dX7_goFurther_16 (lv_at hl 4 rfl) ?_
      refine z_icmp_gt (tgt := 55) hx hb dX7_goFurther_18 (by decide) h (fun h => ?_) (fun h => ?_)
      · refine lv_iload_n hx hb dX7_goFurther_55 rfl (lv_at hl 3 rfl) ?_
        exact z_zret hx hb hlocks hP hS hQ hr dX7_goFurther_56 h
      · refine lv_aload_n hx hb dX7_goFurther_21 rfl (lv_at hl 0 rfl) ?_
        refine z_get hx hb hU uU_X7 hown hK hP (p_0 hW) rfl rfl 6 (by decide) (hU _ uF_X7_55) rfl dX7_goFurther_22 ?_
        refine lv_iload hx hb dX7_goFurther_25 (lv_at hl 5 rfl) ?_
        refine z_callV_i hx hb hml hown hU hK hN hP hS 1 (pR_99 hW).1 rfl rfl (zU_V uL_X7_145 uI_X2_at uS_X2_at uN_X2 uC_X2_at) yd_X2_at ⟨rfl, rfl⟩ ⟨Nat.le_of_ble_eq_true rfl, Nat.le_of_ble_eq_true rfl⟩ (As := [.int x5]) (fun o h9 => ctX2_at hq (pR_99 hW) h9) rfl hl.1 rfl (Nat.le_of_ble_eq_true rfl) dX7_goFurther_27 ⟨Nat.zero_le _, Nat.zero_le _⟩ h (fun r_2 S_1 H locs hP hS h => ?_)
        refine lv_iload_n hx hb dX7_goFurther_30 rfl (lv_at hl 1 rfl) ?_
        refine z_icmp_ne (tgt := 49) hx hb dX7_goFurther_31 (by decide) h (fun h => ?_) (fun h => ?_)
        · exact L49 x1 x2 x3 x4 x5 _ _ _ ls hP hS (lv_sub hl [0, 1, 2, 3, 4, 5] rfl) h
        · refine lv_aload_n hx hb dX7_goFurther_34 rfl (lv_at hl 0 rfl) ?_
          refine lv_iload hx hb dX7_goFurther_35 (lv_at hl 5 rfl) ?_
          refine lv_iload_n hx hb dX7_goFurther_37 rfl (lv_at hl 1 rfl) ?_
          refine lv_iconst (v := 1) hx hb dX7_goFurther_38 rfl ?_
          refine lv_iadd hx hb dX7_goFurther_39 ?_
          refine lv_iload_n hx hb dX7_goFurther_40 rfl (lv_at hl 2 rfl) ?_
          refine z_callV_i hx hb hml hown hU hK hN hP hS 3 (p_0 hW) rfl rfl (zU_V uL_X7_254 uI_X7_reachFrom uS_X7_reachFrom uN_X7 uC_X7_reachFrom) yd_X7_reachFrom ⟨rfl, rfl⟩ ⟨Nat.le_of_ble_eq_true rfl, Nat.le_of_ble_eq_true rfl⟩ (As := [.int x5, .int (x1 + 1), .int x2]) (fun o h9 => ctX7_reachFrom hq hW h9) rfl hl.1 rfl (Nat.le_of_ble_eq_true rfl) dX7_goFurther_41 ⟨Nat.zero_le _, Nat.zero_le _⟩ h (fun r_4 S_3 H locs hP hS h => ?_)
          refine z_if_eq (tgt := 49) hx hb dX7_goFurther_44 (by decide) h (fun h => ?_) (fun h => ?_)
          · exact L49 x1 x2 x3 x4 x5 _ _ _ ls hP hS (lv_sub hl [0, 1, 2, 3, 4, 5] rfl) h
          · refine lv_iconst (v := 1) hx hb dX7_goFurther_47 rfl ?_
            refine lv_istore_n (lv' := [(3, .int 1), (0, .ref (q 0)), (1, .int x1), (2, .int x2), (4, .int x4), (5, .int x5)]) hx hb dX7_goFurther_48 rfl hl (by decide) rfl (fun ls hl => ?_)
            exact L49 x1 x2 1 x4 x5 _ _ _ ls hP hS (lv_sub hl [1, 2, 3, 0, 4, 5] rfl) h
  refine lv_iconst (v := 0) hx hb dX7_goFurther_0 rfl ?_
  refine lv_istore_n (lv' := [(3, .int 0), (0, .ref (q 0)), (1, .int a1), (2, .int a2)]) hx hb dX7_goFurther_1 rfl hl (by decide) rfl (fun ls hl => ?_)
  refine lv_aload_n hx hb dX7_goFurther_2 rfl (lv_at hl 1 rfl) ?_
  refine z_get hx hb hU uU_X7 hown hK hP (p_0 hW) rfl rfl 4 (by decide) (hU _ uF_X7_40) rfl dX7_goFurther_3 ?_
  refine z_callV_i hx hb hml hown hU hK hN hP hS 0 (pW_68 hW).1 rfl rfl (zU_V uL_X7_111 uI_X6_fullSet uS_X6_fullSet uN_X6 uC_X6_fullSet) yd_X6_fullSet ⟨rfl, rfl⟩ ⟨Nat.le_of_ble_eq_true rfl, Nat.le_of_ble_eq_true rfl⟩ (As := []) (fun o h9 => ctX6_fullSet hq (pW_68 hW) h9) rfl hl.1 rfl (Nat.le_of_ble_eq_true rfl) dX7_goFurther_6 ⟨Nat.zero_le _, Nat.zero_le _⟩ h (fun r_6 S_5 H locs hP hS h => ?_)
  refine lv_istore (lv' := [(4, .int r_6), (3, .int 0), (0, .ref (q 0)), (1, .int a1), (2, .int a2)]) hx hb dX7_goFurther_9 hl (by decide) rfl (fun ls hl => ?_)
  refine lv_iconst (v := 0) hx hb dX7_goFurther_11 rfl ?_
  refine lv_istore (lv' := [(5, .int 0), (4, .int r_6), (3, .int 0), (0, .ref (q 0)), (1, .int a1), (2, .int a2)]) hx hb dX7_goFurther_12 hl (by decide) rfl (fun ls hl => ?_)
  exact L14 zF a1 a2 0 r_6 0 _ _ _ ls hP hS (lv_sub hl [3, 4, 5, 2, 1, 0] rfl) h

def fX7_way_158 (x2 : Int32) (S : zT) : Option (Int32 × zT) :=
  zbi (fX2_at 99 256 x2 S) fun r_2 S_1 =>
  some (r_2, S_1)
def fX7_way_118 (rec : Int32 → Int32 → Int32 → Int32 → zT → Option (Int32 × zT)) (x2 : Int32) (x3 : Int32) (x4 : Int32) (x5 : Int32) (S : zT) : Option (Int32 × zT) :=
  (if x4 = 0 then fX7_way_158 x2 S else (if 256 ≤ x5 then fX7_way_158 x2 S else zbi (fX2_at 99 256 x2 S) fun r_4 S_3 =>
  (if r_4 = (-1) then zbi (fX7_goFurther x5 x3 S_3) fun r_6 S_5 =>
  rec x2 x3 r_6 (x5 + 1) S_5 else fX7_way_158 x2 S_3)))
def fX7_way_79 (rec : Int32 → Int32 → Int32 → Int32 → zT → Option (Int32 × zT)) (x1 : Int32) (x2 : Int32) (x3 : Int32) (x4 : Int32) (S : zT) : Option (Int32 × zT) :=
  (if 256 ≤ x4 then zbv (fX2_put 99 256 x1 0 S) fun S_7 =>
  (zfix (fun _ _ _ _ _ => none) fX7_way_118 zF) x2 x3 1 0 S_7 else zbv (fX2_put 99 256 x4 (-1) S) fun S_8 =>
  rec x1 x2 x3 (x4 + 1) S_8)
def fX7_way (a1 : Int32) (a2 : Int32) (a3 : Int32) (S : zT) : Option (Int32 × zT) :=
  zbi (fX6_hasSet 1 a1 S) fun r_10 S_9 =>
  (if r_10 = 0 then some ((-1), S_9) else zbi (fX6_hasSet 1 a2 S_9) fun r_12 S_11 =>
  (if r_12 = 0 then some ((-1), S_11) else zbi (fX7_isWithin a3 1 8 S_11) fun r_14 S_13 =>
  (if r_14 = 0 then some ((-1), S_13) else zbv (fX6_copyFrom 68 1 S_13) fun S_15 =>
  zbv (fX5_readPlaces S_15) fun S_16 =>
  zbi (fX5_isSound a1 S_16) fun r_18 S_17 =>
  (if r_18 = 0 then some ((-1), S_17) else zbi (fX5_isSound a2 S_17) fun r_20 S_19 =>
  (if r_20 = 0 then some ((-1), S_19) else (zfix (fun _ _ _ _ _ => none) fX7_way_79 zF) a1 a2 a3 0 S_19)))))
abbrev rmX7_way : Room := { frames := 5, cells := 0, slots := 0, locals := 112 }
theorem yd_X7_way : yX7_way.cls = RX7 ∧ yX7_way.cls ≠ "java/lang/invoke/MethodHandle" ∧ yX7_way.cls ≠ "java/lang/invoke/VarHandle" ∧ (parseMethodDescriptor yX7_way.desc).map (fun d => d.parameters.length) = some 3 := by decide +kernel
set_option maxRecDepth 100000 in
set_option maxHeartbeats 4000000 in
theorem ctX7_way {l : Launch} {dC : Nat → ClassId} {dI : Nat → Nat → Nat} {cI : ClassId × ClassId} {cW : List zSh} {q : Nat → Nat} (hq : zI cW q) (hW : zIs cI cW) {a1 : Int32} {a2 : Int32} {a3 : Int32} {S : zT} {o : Int32 × zT} (h : fX7_way a1 a2 a3 S = some o) : zCi l dC dI cI cW q yX7_way (Cond.code yX7_way cX7_way 6 (some .int) :: zU) rmX7_way [.ref (q 0), .int a1, .int a2, .int a3] S o := by
  refine zMet_i (lv := [(0, .ref (q 0)), (1, .int a1), (2, .int a2), (3, .int a3)]) (by decide) (Nat.le_of_ble_eq_true rfl) rfl ?_
  intro p e s m args below meth c Q hx hb hml hr hU hown hlocks hK hN hP hS ls hl hQ
  replace hown : s.vm.findClass RX7 = some m.cls := hown
  unfold fX7_way at h
  have L79 : ∀ (n79 : Nat) (x1 : Int32) (x2 : Int32) (x3 : Int32) (x4 : Int32) (S : zT) (H : Heap) (locs : List Loc) (ls : Array Slot), va_P (dC, dI) vwCl (zWd cI cW q S) H → va_S (zA cW q) s.heap H locs → lv_has ls 6 [(0, .ref (q 0)), (1, .int x1), (2, .int x2), (3, .int x3), (4, .int x4)] → (zfix (fun _ _ _ _ _ => none) fX7_way_79 n79) x1 x2 x3 x4 S = some o → W p l e rmX7_way s m args below meth c H locs 0 0 Q (F0 m 79 ls []) := by
    intro n79
    induction n79 with
    | zero => intro x1 x2 x3 x4 S H locs ls hP hS hl h; exact zno (show (none : Option (Int32 × zT)) = some o from h)
    | succ n79 ih79 =>
      intro x1 x2 x3 x4 S H locs ls hP hS hl h
      replace h : fX7_way_79 (zfix (fun _ _ _ _ _ => none) fX7_way_79 n79) x1 x2 x3 x4 S = some o := h
      unfold fX7_way_79 at h
      have L118 : ∀ (n118 : Nat) (x2 : Int32) (x3 : Int32) (x4 : Int32) (x5 : Int32) (S : zT) (H : Heap) (locs : List Loc) (ls : Array Slot), va_P (dC, dI) vwCl (zWd cI cW q S) H → va_S (zA cW q) s.heap H locs → lv_has ls 6 [(0, .ref (q 0)), (2, .int x2), (3, .int x3), (4, .int x4), (5, .int x5)] → (zfix (fun _ _ _ _ _ => none) fX7_way_118 n118) x2 x3 x4 x5 S = some o → W p l e rmX7_way s m args below meth c H locs 0 0 Q (F0 m 118 ls []) := by
        intro n118
        induction n118 with
        | zero => intro x2 x3 x4 x5 S H locs ls hP hS hl h; exact zno (show (none : Option (Int32 × zT)) = some o from h)
        | succ n118 ih118 =>
          intro x2 x3 x4 x5 S H locs ls hP hS hl h
          replace h : fX7_way_118 (zfix (fun _ _ _ _ _ => none) fX7_way_118 n118) x2 x3 x4 x5 S = some o := h
          unfold fX7_way_118 at h
          have L158 : ∀ (x2 : Int32) (S : zT) (H : Heap) (locs : List Loc) (ls : Array Slot), va_P (dC, dI) vwCl (zWd cI cW q S) H → va_S (zA cW q) s.heap H locs → lv_has ls 6 [(0, .ref (q 0)), (2, .int x2)] → fX7_way_158 x2 S = some o → W p l e rmX7_way s m args below meth c H locs 0 0 Q (F0 m 158 ls []) := by
            intro x2 S H locs ls hP hS hl h
            unfold fX7_way_158 at h
            refine lv_aload_n hx hb dX7_way_158 rfl (lv_at hl 0 rfl) ?_
            refine z_get hx hb hU uU_X7 hown hK hP (p_0 hW) rfl rfl 6 (by decide) (hU _ uF_X7_55) rfl dX7_way_159 ?_
            refine lv_iload_n hx hb dX7_way_162 rfl (lv_at hl 1 rfl) ?_
            refine z_callV_i hx hb hml hown hU hK hN hP hS 1 (pR_99 hW).1 rfl rfl (zU_V uL_X7_145 uI_X2_at uS_X2_at uN_X2 uC_X2_at) yd_X2_at ⟨rfl, rfl⟩ ⟨Nat.le_of_ble_eq_true rfl, Nat.le_of_ble_eq_true rfl⟩ (As := [.int x2]) (fun o h9 => ctX2_at hq (pR_99 hW) h9) rfl hl.1 rfl (Nat.le_of_ble_eq_true rfl) dX7_way_163 ⟨Nat.zero_le _, Nat.zero_le _⟩ h (fun r_2 S_1 H locs hP hS h => ?_)
            exact z_iret hx hb hlocks hP hS hQ hr dX7_way_166 h
          refine lv_iload hx hb dX7_way_118 (lv_at hl 3 rfl) ?_
          refine z_if_eq (tgt := 158) hx hb dX7_way_120 (by decide) h (fun h => ?_) (fun h => ?_)
          · exact L158 x2 _ _ _ ls hP hS (lv_sub hl [0, 1] rfl) h
          · refine lv_iload hx hb dX7_way_123 (lv_at hl 4 rfl) ?_
            refine lv_sipush (v := 256) hx hb dX7_way_125 rfl ?_
            refine z_icmp_ge (tgt := 158) hx hb dX7_way_128 (by decide) h (fun h => ?_) (fun h => ?_)
            · exact L158 x2 _ _ _ ls hP hS (lv_sub hl [0, 1] rfl) h
            · refine lv_aload_n hx hb dX7_way_131 rfl (lv_at hl 0 rfl) ?_
              refine z_get hx hb hU uU_X7 hown hK hP (p_0 hW) rfl rfl 6 (by decide) (hU _ uF_X7_55) rfl dX7_way_132 ?_
              refine lv_iload_n hx hb dX7_way_135 rfl (lv_at hl 1 rfl) ?_
              refine z_callV_i hx hb hml hown hU hK hN hP hS 1 (pR_99 hW).1 rfl rfl (zU_V uL_X7_145 uI_X2_at uS_X2_at uN_X2 uC_X2_at) yd_X2_at ⟨rfl, rfl⟩ ⟨Nat.le_of_ble_eq_true rfl, Nat.le_of_ble_eq_true rfl⟩ (As := [.int x2]) (fun o h9 => ctX2_at hq (pR_99 hW) h9) rfl hl.1 rfl (Nat.le_of_ble_eq_true rfl) dX7_way_136 ⟨Nat.zero_le _, Nat.zero_le _⟩ h (fun r_4 S_3 H locs hP hS h => ?_)
              refine lv_iconst (v := (-1)) hx hb dX7_way_139 rfl ?_
              refine z_icmp_ne (tgt := 158) hx hb dX7_way_140 (by decide) h (fun h => ?_) (fun h => ?_)
              · exact L158 x2 _ _ _ ls hP hS (lv_sub hl [0, 1] rfl) h
              · refine lv_aload_n hx hb dX7_way_143 rfl (lv_at hl 0 rfl) ?_
                refine lv_iload hx hb dX7_way_144 (lv_at hl 4 rfl) ?_
                refine lv_iload_n hx hb dX7_way_146 rfl (lv_at hl 2 rfl) ?_
                refine z_callV_i hx hb hml hown hU hK hN hP hS 2 (p_0 hW) rfl rfl (zU_V uL_X7_226 uI_X7_goFurther uS_X7_goFurther uN_X7 uC_X7_goFurther) yd_X7_goFurther ⟨rfl, rfl⟩ ⟨Nat.le_of_ble_eq_true rfl, Nat.le_of_ble_eq_true rfl⟩ (As := [.int x5, .int x3]) (fun o h9 => ctX7_goFurther hq hW h9) rfl hl.1 rfl (Nat.le_of_ble_eq_true rfl) dX7_way_147 ⟨Nat.zero_le _, Nat.zero_le _⟩ h (fun r_6 S_5 H locs hP hS h => ?_)
                refine lv_istore (lv' := [(4, .int r_6), (0, .ref (q 0)), (2, .int x2), (3, .int x3), (5, .int x5)]) hx hb dX7_way_150 hl (by decide) rfl (fun ls hl => ?_)
                refine lv_iinc (v := (x5 + 1)) (lv' := [(5, .int (x5 + 1)), (4, .int r_6), (0, .ref (q 0)), (2, .int x2), (3, .int x3)]) hx hb dX7_way_152 hl (k := 4) rfl rfl (by decide) rfl (fun ls hl => ?_)
                refine lv_goto (tgt := 118) hx hb dX7_way_155 (by decide) ?_
                exact ih118 x2 x3 r_6 (x5 + 1) _ _ _ ls hP hS (lv_sub hl [2, 3, 4, 1, 0] rfl) h
      refine lv_iload hx hb dX7_way_79 (lv_at hl 4 rfl) ?_
      refine lv_sipush (v := 256) hx hb dX7_way_81 rfl ?_
      refine z_icmp_ge (tgt := 103) hx hb dX7_way_84 (by decide) h (fun h => ?_) (fun h => ?_)
      · refine lv_aload_n hx hb dX7_way_103 rfl (lv_at hl 0 rfl) ?_
        refine z_get hx hb hU uU_X7 hown hK hP (p_0 hW) rfl rfl 6 (by decide) (hU _ uF_X7_55) rfl dX7_way_104 ?_
        refine lv_iload_n hx hb dX7_way_107 rfl (lv_at hl 1 rfl) ?_
        refine lv_iconst (v := 0) hx hb dX7_way_108 rfl ?_
        refine z_callV_v hx hb hml hown hU hK hN hP hS 2 (pR_99 hW).1 rfl rfl (zU_V uL_X7_86 uI_X2_put uS_X2_put uN_X2 uC_X2_put) yd_X2_put ⟨rfl, rfl⟩ ⟨Nat.le_of_ble_eq_true rfl, Nat.le_of_ble_eq_true rfl⟩ (As := [.int x1, .int 0]) (fun o h9 => ctX2_put hq (pR_99 hW) h9) rfl hl.1 rfl (Nat.le_of_ble_eq_true rfl) dX7_way_109 ⟨Nat.zero_le _, Nat.zero_le _⟩ h (fun S_7 H locs hP hS h => ?_)
        refine lv_iconst (v := 1) hx hb dX7_way_112 rfl ?_
        refine lv_istore (lv' := [(4, .int 1), (0, .ref (q 0)), (1, .int x1), (2, .int x2), (3, .int x3)]) hx hb dX7_way_113 hl (by decide) rfl (fun ls hl => ?_)
        refine lv_iconst (v := 0) hx hb dX7_way_115 rfl ?_
        refine lv_istore (lv' := [(5, .int 0), (4, .int 1), (0, .ref (q 0)), (1, .int x1), (2, .int x2), (3, .int x3)]) hx hb dX7_way_116 hl (by decide) rfl (fun ls hl => ?_)
        exact L118 zF x2 x3 1 0 _ _ _ ls hP hS (lv_sub hl [2, 4, 5, 1, 0] rfl) h
      · refine lv_aload_n hx hb dX7_way_87 rfl (lv_at hl 0 rfl) ?_
        refine z_get hx hb hU uU_X7 hown hK hP (p_0 hW) rfl rfl 6 (by decide) (hU _ uF_X7_55) rfl dX7_way_88 ?_
        refine lv_iload hx hb dX7_way_91 (lv_at hl 4 rfl) ?_
        refine lv_iconst (v := (-1)) hx hb dX7_way_93 rfl ?_
        refine z_callV_v hx hb hml hown hU hK hN hP hS 2 (pR_99 hW).1 rfl rfl (zU_V uL_X7_86 uI_X2_put uS_X2_put uN_X2 uC_X2_put) yd_X2_put ⟨rfl, rfl⟩ ⟨Nat.le_of_ble_eq_true rfl, Nat.le_of_ble_eq_true rfl⟩ (As := [.int x4, .int (-1)]) (fun o h9 => ctX2_put hq (pR_99 hW) h9) rfl hl.1 rfl (Nat.le_of_ble_eq_true rfl) dX7_way_94 ⟨Nat.zero_le _, Nat.zero_le _⟩ h (fun S_8 H locs hP hS h => ?_)
        refine lv_iinc (v := (x4 + 1)) (lv' := [(4, .int (x4 + 1)), (0, .ref (q 0)), (1, .int x1), (2, .int x2), (3, .int x3)]) hx hb dX7_way_97 hl (k := 4) rfl rfl (by decide) rfl (fun ls hl => ?_)
        refine lv_goto (tgt := 79) hx hb dX7_way_100 (by decide) ?_
        exact ih79 x1 x2 x3 (x4 + 1) _ _ _ ls hP hS (lv_sub hl [1, 2, 3, 4, 0] rfl) h
  refine lv_aload_n hx hb dX7_way_0 rfl (lv_at hl 0 rfl) ?_
  refine z_get hx hb hU uU_X7 hown hK hP (p_0 hW) rfl rfl 0 (by decide) (hU _ uF_X7_12) rfl dX7_way_1 ?_
  refine lv_iload_n hx hb dX7_way_4 rfl (lv_at hl 1 rfl) ?_
  refine z_callV_i hx hb hml hown hU hK hN hP hS 1 (pW_1 hW).1 rfl rfl (zU_V uL_X7_118 uI_X6_hasSet uS_X6_hasSet uN_X6 uC_X6_hasSet) yd_X6_hasSet ⟨rfl, rfl⟩ ⟨Nat.le_of_ble_eq_true rfl, Nat.le_of_ble_eq_true rfl⟩ (As := [.int a1]) (fun o h9 => ctX6_hasSet hq (pW_1 hW) h9) rfl hl.1 rfl (Nat.le_of_ble_eq_true rfl) dX7_way_5 ⟨Nat.zero_le _, Nat.zero_le _⟩ h (fun r_10 S_9 H locs hP hS h => ?_)
  refine z_if_eq (tgt := 32) hx hb dX7_way_8 (by decide) h (fun h => ?_) (fun h => ?_)
  · refine lv_iconst (v := (-1)) hx hb dX7_way_32 rfl ?_
    exact z_iret hx hb hlocks hP hS hQ hr dX7_way_33 h
  · refine lv_aload_n hx hb dX7_way_11 rfl (lv_at hl 0 rfl) ?_
    refine z_get hx hb hU uU_X7 hown hK hP (p_0 hW) rfl rfl 0 (by decide) (hU _ uF_X7_12) rfl dX7_way_12 ?_
    refine lv_iload_n hx hb dX7_way_15 rfl (lv_at hl 2 rfl) ?_
    refine z_callV_i hx hb hml hown hU hK hN hP hS 1 (pW_1 hW).1 rfl rfl (zU_V uL_X7_118 uI_X6_hasSet uS_X6_hasSet uN_X6 uC_X6_hasSet) yd_X6_hasSet ⟨rfl, rfl⟩ ⟨Nat.le_of_ble_eq_true rfl, Nat.le_of_ble_eq_true rfl⟩ (As := [.int a2]) (fun o h9 => ctX6_hasSet hq (pW_1 hW) h9) rfl hl.1 rfl (Nat.le_of_ble_eq_true rfl) dX7_way_16 ⟨Nat.zero_le _, Nat.zero_le _⟩ h (fun r_12 S_11 H locs hP hS h => ?_)
    refine z_if_eq (tgt := 32) hx hb dX7_way_19 (by decide) h (fun h => ?_) (fun h => ?_)
    · refine lv_iconst (v := (-1)) hx hb dX7_way_32 rfl ?_
      exact z_iret hx hb hlocks hP hS hQ hr dX7_way_33 h
    · refine lv_iload_n hx hb dX7_way_22 rfl (lv_at hl 3 rfl) ?_
      refine lv_iconst (v := 1) hx hb dX7_way_23 rfl ?_
      refine lv_bipush (v := 8) hx hb dX7_way_24 rfl ?_
      refine z_callS_i hx hb hml hown hU hK hN hP hS 3 (zU_J uL_X7_63 uT_X7_isWithin uN_X7 uC_X7_isWithin) yd_X7_isWithin ⟨rfl, rfl⟩ ⟨Nat.le_of_ble_eq_true rfl, Nat.le_of_ble_eq_true rfl⟩ (As := [.int a3, .int 1, .int 8]) (fun o h9 => ctX7_isWithin hq  h9) rfl hl.1 rfl (Nat.le_of_ble_eq_true rfl) dX7_way_26 ⟨Nat.zero_le _, Nat.zero_le _⟩ h (fun r_14 S_13 H locs hP hS h => ?_)
      refine z_if_ne (tgt := 34) hx hb dX7_way_29 (by decide) h (fun h => ?_) (fun h => ?_)
      · refine lv_aload_n hx hb dX7_way_34 rfl (lv_at hl 0 rfl) ?_
        refine z_get hx hb hU uU_X7 hown hK hP (p_0 hW) rfl rfl 4 (by decide) (hU _ uF_X7_40) rfl dX7_way_35 ?_
        refine lv_aload_n hx hb dX7_way_38 rfl (lv_at hl 0 rfl) ?_
        refine z_get hx hb hU uU_X7 hown hK hP (p_0 hW) rfl rfl 0 (by decide) (hU _ uF_X7_12) rfl dX7_way_39 ?_
        refine z_callV_v hx hb hml hown hU hK hN hP hS 1 (pW_68 hW).1 rfl rfl (zU_V uL_X7_185 uI_X6_copyFrom uS_X6_copyFrom uN_X6 uC_X6_copyFrom) yd_X6_copyFrom ⟨rfl, rfl⟩ ⟨Nat.le_of_ble_eq_true rfl, Nat.le_of_ble_eq_true rfl⟩ (As := [.ref (q 1)]) (fun o h9 => ctX6_copyFrom hq (pW_68 hW) (pW_1 hW) h9) rfl hl.1 rfl (Nat.le_of_ble_eq_true rfl) dX7_way_42 ⟨Nat.zero_le _, Nat.zero_le _⟩ h (fun S_15 H locs hP hS h => ?_)
        refine lv_aload_n hx hb dX7_way_45 rfl (lv_at hl 0 rfl) ?_
        refine z_get hx hb hU uU_X7 hown hK hP (p_0 hW) rfl rfl 3 (by decide) (hU _ uF_X7_34) rfl dX7_way_46 ?_
        refine z_callV_v hx hb hml hown hU hK hN hP hS 0 (p_67 hW) rfl rfl (zU_V uL_X7_220 uI_X5_readPlaces uS_X5_readPlaces uN_X5 uC_X5_readPlaces) yd_X5_readPlaces ⟨rfl, rfl⟩ ⟨Nat.le_of_ble_eq_true rfl, Nat.le_of_ble_eq_true rfl⟩ (As := []) (fun o h9 => ctX5_readPlaces hq hW h9) rfl hl.1 rfl (Nat.le_of_ble_eq_true rfl) dX7_way_49 ⟨Nat.zero_le _, Nat.zero_le _⟩ h (fun S_16 H locs hP hS h => ?_)
        refine lv_aload_n hx hb dX7_way_52 rfl (lv_at hl 0 rfl) ?_
        refine z_get hx hb hU uU_X7 hown hK hP (p_0 hW) rfl rfl 3 (by decide) (hU _ uF_X7_34) rfl dX7_way_53 ?_
        refine lv_iload_n hx hb dX7_way_56 rfl (lv_at hl 1 rfl) ?_
        refine z_callV_i hx hb hml hown hU hK hN hP hS 1 (p_67 hW) rfl rfl (zU_V uL_X7_223 uI_X5_isSound uS_X5_isSound uN_X5 uC_X5_isSound) yd_X5_isSound ⟨rfl, rfl⟩ ⟨Nat.le_of_ble_eq_true rfl, Nat.le_of_ble_eq_true rfl⟩ (As := [.int a1]) (fun o h9 => ctX5_isSound hq hW h9) rfl hl.1 rfl (Nat.le_of_ble_eq_true rfl) dX7_way_57 ⟨Nat.zero_le _, Nat.zero_le _⟩ h (fun r_18 S_17 H locs hP hS h => ?_)
        refine z_if_eq (tgt := 74) hx hb dX7_way_60 (by decide) h (fun h => ?_) (fun h => ?_)
        · refine lv_iconst (v := (-1)) hx hb dX7_way_74 rfl ?_
          exact z_iret hx hb hlocks hP hS hQ hr dX7_way_75 h
        · refine lv_aload_n hx hb dX7_way_63 rfl (lv_at hl 0 rfl) ?_
          refine z_get hx hb hU uU_X7 hown hK hP (p_0 hW) rfl rfl 3 (by decide) (hU _ uF_X7_34) rfl dX7_way_64 ?_
          refine lv_iload_n hx hb dX7_way_67 rfl (lv_at hl 2 rfl) ?_
          refine z_callV_i hx hb hml hown hU hK hN hP hS 1 (p_67 hW) rfl rfl (zU_V uL_X7_223 uI_X5_isSound uS_X5_isSound uN_X5 uC_X5_isSound) yd_X5_isSound ⟨rfl, rfl⟩ ⟨Nat.le_of_ble_eq_true rfl, Nat.le_of_ble_eq_true rfl⟩ (As := [.int a2]) (fun o h9 => ctX5_isSound hq hW h9) rfl hl.1 rfl (Nat.le_of_ble_eq_true rfl) dX7_way_68 ⟨Nat.zero_le _, Nat.zero_le _⟩ h (fun r_20 S_19 H locs hP hS h => ?_)
          refine z_if_ne (tgt := 76) hx hb dX7_way_71 (by decide) h (fun h => ?_) (fun h => ?_)
          · refine lv_iconst (v := 0) hx hb dX7_way_76 rfl ?_
            refine lv_istore (lv' := [(4, .int 0), (0, .ref (q 0)), (1, .int a1), (2, .int a2), (3, .int a3)]) hx hb dX7_way_77 hl (by decide) rfl (fun ls hl => ?_)
            exact L79 zF a1 a2 a3 0 _ _ _ ls hP hS (lv_sub hl [1, 2, 3, 4, 0] rfl) h
          · refine lv_iconst (v := (-1)) hx hb dX7_way_74 rfl ?_
            exact z_iret hx hb hlocks hP hS hQ hr dX7_way_75 h
      · refine lv_iconst (v := (-1)) hx hb dX7_way_32 rfl ?_
        exact z_iret hx hb hlocks hP hS hQ hr dX7_way_33 h

def fX0_takeBack_18 (b1 : Nat) (t0 : Int32) (S : zT) : Option (Int32 × zT) :=
  zbw (fX0_stateAt t0 S) (fun S_1 => (if (S_1.1 8 2) = 0 then some (0, S_1) else some (0, S_1))) (fun k_2 S_1 => (if (S_1.1 8 2) = 0 then some (0, S_1) else zbv (fX6_copyFrom b1 k_2 S_1) fun S_3 =>
  zlet (zsi S_3 8 1 t0) fun S_4 =>
  zlet (zsi S_4 8 2 ((S_4.1 8 2) - 1)) fun S_5 =>
  some (1, S_5)))
def fX0_takeBack (b1 : Nat) (S : zT) : Option (Int32 × zT) :=
  (if (S.1 8 1) ≤ 0 then (fX0_takeBack_18 b1) 7 S else (fX0_takeBack_18 b1) ((S.1 8 1) - 1) S)
abbrev rmX0_takeBack : Room := { frames := 3, cells := 0, slots := 0, locals := 64 }
theorem yd_X0_takeBack : yX0_takeBack.cls = RX0 ∧ yX0_takeBack.cls ≠ "java/lang/invoke/MethodHandle" ∧ yX0_takeBack.cls ≠ "java/lang/invoke/VarHandle" ∧ (parseMethodDescriptor yX0_takeBack.desc).map (fun d => d.parameters.length) = some 1 := by decide +kernel
set_option maxRecDepth 100000 in
set_option maxHeartbeats 4000000 in
theorem ctX0_takeBack {l : Launch} {dC : Nat → ClassId} {dI : Nat → Nat → Nat} {cI : ClassId × ClassId} {cW : List zSh} {q : Nat → Nat} (hq : zI cW q) (hW : zIs cI cW) {b1 : Nat} (hb1 : isWk cI cW b1) {S : zT} {o : Int32 × zT} (h : fX0_takeBack b1 S = some o) : zCi l dC dI cI cW q yX0_takeBack (Cond.code yX0_takeBack cX0_takeBack 4 (some .boolean) :: zU) rmX0_takeBack [.ref (q 8), .ref (q b1)] S o := by
  refine zMet_i (lv := [(0, .ref (q 8)), (1, .ref (q b1))]) (by decide) (Nat.le_of_ble_eq_true rfl) rfl ?_
  intro p e s m args below meth c Q hx hb hml hr hU hown hlocks hK hN hP hS ls hl hQ
  replace hown : s.vm.findClass RX0 = some m.cls := hown
  unfold fX0_takeBack at h
  have L18 : ∀ (t0 : Int32) (S : zT) (H : Heap) (locs : List Loc) (ls : Array Slot), va_P (dC, dI) vwCl (zWd cI cW q S) H → va_S (zA cW q) s.heap H locs → lv_has ls 4 [(0, .ref (q 8)), (1, .ref (q b1))] → (fX0_takeBack_18 b1) t0 S = some o → W p l e rmX0_takeBack s m args below meth c H locs 0 0 Q (F0 m 18 ls [.int t0]) := by
    intro t0 S H locs ls hP hS hl h
    unfold fX0_takeBack_18 at h
    refine lv_istore_n (lv' := [(2, .int t0), (0, .ref (q 8)), (1, .ref (q b1))]) hx hb dX0_takeBack_18 rfl hl (by decide) rfl (fun ls hl => ?_)
    refine lv_aload_n hx hb dX0_takeBack_19 rfl (lv_at hl 1 rfl) ?_
    refine lv_iload_n hx hb dX0_takeBack_20 rfl (lv_at hl 0 rfl) ?_
    refine z_callV_w hW hx hb hml hown hU hK hN hP hS 1 (p_8 hW) rfl rfl (zU_V uL_X0_22 uI_X0_stateAt uS_X0_stateAt uN_X0 uC_X0_stateAt) yd_X0_stateAt ⟨rfl, rfl⟩ ⟨Nat.le_of_ble_eq_true rfl, Nat.le_of_ble_eq_true rfl⟩ (As := [.int t0]) (fun o h9 => ctX0_stateAt hq hW h9) rfl hl.1 rfl (Nat.le_of_ble_eq_true rfl) dX0_takeBack_21 ⟨Nat.zero_le _, Nat.zero_le _⟩ h (fun S_1 H locs hP hS h => ?_) (fun k_2 S_1 H locs hk_2 hP hS h => ?_)
    · refine lv_astore_nN (lv' := [(3, .null), (2, .int t0), (0, .ref (q 8)), (1, .ref (q b1))]) hx hb dX0_takeBack_24 rfl hl (by decide) rfl (fun ls hl => ?_)
      refine lv_aload_n hx hb dX0_takeBack_25 rfl (lv_at hl 2 rfl) ?_
      refine z_get hx hb hU uU_X0 hown hK hP (p_8 hW) rfl rfl 2 (by decide) (hU _ uF_X0_30) rfl dX0_takeBack_26 ?_
      refine z_if_eq (tgt := 36) hx hb dX0_takeBack_29 (by decide) h (fun h => ?_) (fun h => ?_)
      · refine lv_iconst (v := 0) hx hb dX0_takeBack_36 rfl ?_
        exact z_zretC hx hb hlocks hP hS hQ hr dX0_takeBack_37 (Or.inl rfl) h
      · refine lv_aload_nN hx hb dX0_takeBack_32 rfl (lv_at hl 0 rfl) ?_
        refine lv_ifnonnullN hx hb dX0_takeBack_33 ?_
        refine lv_iconst (v := 0) hx hb dX0_takeBack_36 rfl ?_
        exact z_zretC hx hb hlocks hP hS hQ hr dX0_takeBack_37 (Or.inl rfl) h
    · refine lv_astore_n (lv' := [(3, .ref (q k_2)), (2, .int t0), (0, .ref (q 8)), (1, .ref (q b1))]) hx hb dX0_takeBack_24 rfl hl (by decide) rfl (fun ls hl => ?_)
      refine lv_aload_n hx hb dX0_takeBack_25 rfl (lv_at hl 2 rfl) ?_
      refine z_get hx hb hU uU_X0 hown hK hP (p_8 hW) rfl rfl 2 (by decide) (hU _ uF_X0_30) rfl dX0_takeBack_26 ?_
      refine z_if_eq (tgt := 36) hx hb dX0_takeBack_29 (by decide) h (fun h => ?_) (fun h => ?_)
      · refine lv_iconst (v := 0) hx hb dX0_takeBack_36 rfl ?_
        exact z_zretC hx hb hlocks hP hS hQ hr dX0_takeBack_37 (Or.inl rfl) h
      · refine lv_aload_n hx hb dX0_takeBack_32 rfl (lv_at hl 0 rfl) ?_
        refine lv_ifnonnull (tgt := 38) hx hb dX0_takeBack_33 (by decide) ?_
        refine lv_aload_n hx hb dX0_takeBack_38 rfl (lv_at hl 3 rfl) ?_
        refine lv_aload_n hx hb dX0_takeBack_39 rfl (lv_at hl 0 rfl) ?_
        refine z_callV_v hx hb hml hown hU hK hN hP hS 1 hb1.1 rfl rfl (zU_V uL_X0_26 uI_X6_copyFrom uS_X6_copyFrom uN_X6 uC_X6_copyFrom) yd_X6_copyFrom ⟨rfl, rfl⟩ ⟨Nat.le_of_ble_eq_true rfl, Nat.le_of_ble_eq_true rfl⟩ (As := [.ref (q k_2)]) (fun o h9 => ctX6_copyFrom hq hb1 hk_2 h9) rfl hl.1 rfl (Nat.le_of_ble_eq_true rfl) dX0_takeBack_40 ⟨Nat.zero_le _, Nat.zero_le _⟩ h (fun S_3 H locs hP hS h => ?_)
        refine lv_aload_n hx hb dX0_takeBack_43 rfl (lv_at hl 2 rfl) ?_
        refine lv_iload_n hx hb dX0_takeBack_44 rfl (lv_at hl 1 rfl) ?_
        refine z_puti hx hb hU uU_X0 tyX0 tyX0_ok nmX0 hown hq hK hP hS (p_8 hW) rfl rfl 1 (by decide) (hU _ uF_X0_18) rfl rfl rfl (Nat.le_of_ble_eq_true rfl) rfl dX0_takeBack_45 h (fun S_4 H locs hP hS h => ?_)
        refine lv_aload_n hx hb dX0_takeBack_48 rfl (lv_at hl 2 rfl) ?_
        refine lv_dup hx hb dX0_takeBack_49 rfl ?_
        refine z_get hx hb hU uU_X0 hown hK hP (p_8 hW) rfl rfl 2 (by decide) (hU _ uF_X0_30) rfl dX0_takeBack_50 ?_
        refine lv_iconst (v := 1) hx hb dX0_takeBack_53 rfl ?_
        refine lv_isub hx hb dX0_takeBack_54 ?_
        refine z_puti hx hb hU uU_X0 tyX0 tyX0_ok nmX0 hown hq hK hP hS (p_8 hW) rfl rfl 2 (by decide) (hU _ uF_X0_30) rfl rfl rfl (Nat.le_of_ble_eq_true rfl) rfl dX0_takeBack_55 h (fun S_5 H locs hP hS h => ?_)
        refine lv_iconst (v := 1) hx hb dX0_takeBack_58 rfl ?_
        exact z_zretC hx hb hlocks hP hS hQ hr dX0_takeBack_59 (Or.inr rfl) h
  refine lv_aload_n hx hb dX0_takeBack_0 rfl (lv_at hl 0 rfl) ?_
  refine z_get hx hb hU uU_X0 hown hK hP (p_8 hW) rfl rfl 1 (by decide) (hU _ uF_X0_18) rfl dX0_takeBack_1 ?_
  refine z_if_le (tgt := 16) hx hb dX0_takeBack_4 (by decide) h (fun h => ?_) (fun h => ?_)
  · refine lv_bipush (v := 7) hx hb dX0_takeBack_16 rfl ?_
    exact L18 7 _ _ _ ls hP hS (lv_sub hl [0, 1] rfl) h
  · refine lv_aload_n hx hb dX0_takeBack_7 rfl (lv_at hl 0 rfl) ?_
    refine z_get hx hb hU uU_X0 hown hK hP (p_8 hW) rfl rfl 1 (by decide) (hU _ uF_X0_18) rfl dX0_takeBack_8 ?_
    refine lv_iconst (v := 1) hx hb dX0_takeBack_11 rfl ?_
    refine lv_isub hx hb dX0_takeBack_12 ?_
    refine lv_goto (tgt := 18) hx hb dX0_takeBack_13 (by decide) ?_
    exact L18 ((S.1 8 1) - 1) _ _ _ ls hP hS (lv_sub hl [0, 1] rfl) h

def fX7_undo (S : zT) : Option (Int32 × zT) :=
  zbi (fX0_takeBack 1 S) fun r_2 S_1 =>
  if r_2 = 0 ∨ r_2 = 1 then some (r_2, S_1) else none
abbrev rmX7_undo : Room := { frames := 4, cells := 0, slots := 0, locals := 87 }
theorem yd_X7_undo : yX7_undo.cls = RX7 ∧ yX7_undo.cls ≠ "java/lang/invoke/MethodHandle" ∧ yX7_undo.cls ≠ "java/lang/invoke/VarHandle" ∧ (parseMethodDescriptor yX7_undo.desc).map (fun d => d.parameters.length) = some 0 := by decide +kernel
set_option maxRecDepth 100000 in
set_option maxHeartbeats 4000000 in
theorem ctX7_undo {l : Launch} {dC : Nat → ClassId} {dI : Nat → Nat → Nat} {cI : ClassId × ClassId} {cW : List zSh} {q : Nat → Nat} (hq : zI cW q) (hW : zIs cI cW) {S : zT} {o : Int32 × zT} (h : fX7_undo S = some o) : zCi l dC dI cI cW q yX7_undo (Cond.code yX7_undo cX7_undo 1 (some .boolean) :: zU) rmX7_undo [.ref (q 0)] S o := by
  refine zMet_i (lv := [(0, .ref (q 0))]) (by decide) (Nat.le_of_ble_eq_true rfl) rfl ?_
  intro p e s m args below meth c Q hx hb hml hr hU hown hlocks hK hN hP hS ls hl hQ
  replace hown : s.vm.findClass RX7 = some m.cls := hown
  unfold fX7_undo at h
  refine lv_aload_n hx hb dX7_undo_0 rfl (lv_at hl 0 rfl) ?_
  refine z_get hx hb hU uU_X7 hown hK hP (p_0 hW) rfl rfl 1 (by decide) (hU _ uF_X7_19) rfl dX7_undo_1 ?_
  refine lv_aload_n hx hb dX7_undo_4 rfl (lv_at hl 0 rfl) ?_
  refine z_get hx hb hU uU_X7 hown hK hP (p_0 hW) rfl rfl 0 (by decide) (hU _ uF_X7_12) rfl dX7_undo_5 ?_
  refine z_callV_i hx hb hml hown hU hK hN hP hS 1 (p_8 hW) rfl rfl (zU_V uL_X7_229 uI_X0_takeBack uS_X0_takeBack uN_X0 uC_X0_takeBack) yd_X0_takeBack ⟨rfl, rfl⟩ ⟨Nat.le_of_ble_eq_true rfl, Nat.le_of_ble_eq_true rfl⟩ (As := [.ref (q 1)]) (fun o h9 => ctX0_takeBack hq hW (pW_1 hW) h9) rfl hl.1 rfl (Nat.le_of_ble_eq_true rfl) dX7_undo_8 ⟨Nat.zero_le _, Nat.zero_le _⟩ h (fun r_2 S_1 H locs hP hS h => ?_)
  exact z_zret hx hb hlocks hP hS hQ hr dX7_undo_11 h

def fX8_lays_93 (k68 : Int32 → Int32 → zT → Option zT) (x1 : Int32) (x3 : Int32) (t0 : Int32) (t1 : Int32) (S : zT) : Option zT :=
  if ¬ (t1 < 0 ∨ 48 ≤ t1.toNatClampNeg) then zlet (zsi S 102 t1.toNatClampNeg t0) (fun S_1 =>
  if ¬ ((15 + x3) < 0 ∨ 48 ≤ (15 + x3).toNatClampNeg) then zlet (zsi S_1 102 (15 + x3).toNatClampNeg (4 * (x3 / 2))) (fun S_2 =>
  k68 x1 (x3 + 1) S_2) else none) else none
def fX8_lays_68 (rec : Int32 → Int32 → zT → Option zT) (x1 : Int32) (x3 : Int32) (S : zT) : Option zT :=
  (if x1 ≤ x3 then zlet (zsi S 102 23 ((zshl 1 x1) - 1)) fun S_3 =>
  some S_3 else (if (x3 - x3 / 2 * 2) = 0 then (fX8_lays_93 rec) x1 x3 (-3) (7 + x3) S else (fX8_lays_93 rec) x1 x3 3 (7 + x3) S))
def fX8_lays_2 (rec : Int32 → Int32 → Int32 → zT → Option zT) (x1 : Int32) (x2 : Int32) (x3 : Int32) (S : zT) : Option zT :=
  (if 48 ≤ x3 then zlet (zsi S 102 0 x1) fun S_4 =>
  zlet (zsi S_4 102 1 x2) fun S_5 =>
  zlet (zsi S_5 102 3 10) fun S_6 =>
  zlet (zsi S_6 102 5 (2 * (((x1 + 1) / 2) - 1))) fun S_7 =>
  zlet (zsi S_7 102 6 1) fun S_8 =>
  (zfix (fun _ _ _ => none) fX8_lays_68 zF) x1 0 S_8 else if ¬ (x3 < 0 ∨ 48 ≤ x3.toNatClampNeg) then zlet (zsi S 102 x3.toNatClampNeg 0) (fun S_9 =>
  rec x1 x2 (x3 + 1) S_9) else none)
def fX8_lays (a1 : Int32) (a2 : Int32) (S : zT) : Option zT :=
  (zfix (fun _ _ _ _ => none) fX8_lays_2 zF) a1 a2 0 S
abbrev rmX8_lays : Room := { frames := 0, cells := 0, slots := 0, locals := 0 }
theorem yd_X8_lays : yX8_lays.cls = RX8 ∧ yX8_lays.cls ≠ "java/lang/invoke/MethodHandle" ∧ yX8_lays.cls ≠ "java/lang/invoke/VarHandle" ∧ (parseMethodDescriptor yX8_lays.desc).map (fun d => d.parameters.length) = some 2 := by decide +kernel
set_option maxRecDepth 100000 in
set_option maxHeartbeats 4000000 in
theorem ctX8_lays {l : Launch} {dC : Nat → ClassId} {dI : Nat → Nat → Nat} {cI : ClassId × ClassId} {cW : List zSh} {q : Nat → Nat} (hq : zI cW q) (hW : zIs cI cW) {a1 : Int32} {a2 : Int32} {S : zT} {o : zT} (h : fX8_lays a1 a2 S = some o) : zCv l dC dI cI cW q yX8_lays (Cond.code yX8_lays cX8_lays 4 none :: zU) rmX8_lays [.ref (q 101), .int a1, .int a2] S o := by
  refine zMet_v (lv := [(0, .ref (q 101)), (1, .int a1), (2, .int a2)]) (by decide) (Nat.le_of_ble_eq_true rfl) rfl ?_
  intro p e s m args below meth c Q hx hb hml hr hU hown hlocks hK hN hP hS ls hl hQ
  replace hown : s.vm.findClass RX8 = some m.cls := hown
  unfold fX8_lays at h
  have L2 : ∀ (n2 : Nat) (x1 : Int32) (x2 : Int32) (x3 : Int32) (S : zT) (H : Heap) (locs : List Loc) (ls : Array Slot), va_P (dC, dI) vwCl (zWd cI cW q S) H → va_S (zA cW q) s.heap H locs → lv_has ls 4 [(0, .ref (q 101)), (1, .int x1), (2, .int x2), (3, .int x3)] → (zfix (fun _ _ _ _ => none) fX8_lays_2 n2) x1 x2 x3 S = some o → W p l e rmX8_lays s m args below meth c H locs 0 0 Q (F0 m 2 ls []) := by
    intro n2
    induction n2 with
    | zero => intro x1 x2 x3 S H locs ls hP hS hl h; exact zno (show (none : Option zT) = some o from h)
    | succ n2 ih2 =>
      intro x1 x2 x3 S H locs ls hP hS hl h
      replace h : fX8_lays_2 (zfix (fun _ _ _ _ => none) fX8_lays_2 n2) x1 x2 x3 S = some o := h
      unfold fX8_lays_2 at h
      have L68 : ∀ (n68 : Nat) (x1 : Int32) (x3 : Int32) (S : zT) (H : Heap) (locs : List Loc) (ls : Array Slot), va_P (dC, dI) vwCl (zWd cI cW q S) H → va_S (zA cW q) s.heap H locs → lv_has ls 4 [(0, .ref (q 101)), (1, .int x1), (3, .int x3)] → (zfix (fun _ _ _ => none) fX8_lays_68 n68) x1 x3 S = some o → W p l e rmX8_lays s m args below meth c H locs 0 0 Q (F0 m 68 ls []) := by
        intro n68
        induction n68 with
        | zero => intro x1 x3 S H locs ls hP hS hl h; exact zno (show (none : Option zT) = some o from h)
        | succ n68 ih68 =>
          intro x1 x3 S H locs ls hP hS hl h
          replace h : fX8_lays_68 (zfix (fun _ _ _ => none) fX8_lays_68 n68) x1 x3 S = some o := h
          unfold fX8_lays_68 at h
          have L93 : ∀ (x1 : Int32) (x3 : Int32) (t0 : Int32) (t1 : Int32) (S : zT) (H : Heap) (locs : List Loc) (ls : Array Slot), va_P (dC, dI) vwCl (zWd cI cW q S) H → va_S (zA cW q) s.heap H locs → lv_has ls 4 [(0, .ref (q 101)), (1, .int x1), (3, .int x3)] → (fX8_lays_93 (zfix (fun _ _ _ => none) fX8_lays_68 n68)) x1 x3 t0 t1 S = some o → W p l e rmX8_lays s m args below meth c H locs 0 0 Q (F0 m 93 ls [.int t0, .int t1, .ref (q 102)]) := by
            intro x1 x3 t0 t1 S H locs ls hP hS hl h
            unfold fX8_lays_93 at h
            refine z_iast hx hb hq hK hP hS (pA_102 hW) dX8_lays_93 h (fun S_1 H locs hP hS h => ?_)
            refine lv_aload_n hx hb dX8_lays_94 rfl (lv_at hl 0 rfl) ?_
            refine z_get hx hb hU uU_X8 hown hK hP (p_101 hW) rfl rfl 1 (by decide) (hU _ uF_X8_7) rfl dX8_lays_95 ?_
            refine lv_bipush (v := 15) hx hb dX8_lays_98 rfl ?_
            refine lv_iload_n hx hb dX8_lays_100 rfl (lv_at hl 2 rfl) ?_
            refine lv_iadd hx hb dX8_lays_101 ?_
            refine lv_iconst (v := 4) hx hb dX8_lays_102 rfl ?_
            refine lv_iload_n hx hb dX8_lays_103 rfl (lv_at hl 2 rfl) ?_
            refine lv_iconst (v := 2) hx hb dX8_lays_104 rfl ?_
            refine lv_idiv hx hb dX8_lays_105 (by decide) ?_
            refine lv_imul hx hb dX8_lays_106 ?_
            refine z_iast hx hb hq hK hP hS (pA_102 hW) dX8_lays_107 h (fun S_2 H locs hP hS h => ?_)
            refine lv_iinc (v := (x3 + 1)) (lv' := [(3, .int (x3 + 1)), (0, .ref (q 101)), (1, .int x1)]) hx hb dX8_lays_108 hl (k := 2) rfl rfl (by decide) rfl (fun ls hl => ?_)
            refine lv_goto (tgt := 68) hx hb dX8_lays_111 (by decide) ?_
            exact ih68 x1 (x3 + 1) _ _ _ ls hP hS (lv_sub hl [1, 2, 0] rfl) h
          refine lv_iload_n hx hb dX8_lays_68 rfl (lv_at hl 2 rfl) ?_
          refine lv_iload_n hx hb dX8_lays_69 rfl (lv_at hl 1 rfl) ?_
          refine z_icmp_ge (tgt := 114) hx hb dX8_lays_70 (by decide) h (fun h => ?_) (fun h => ?_)
          · refine lv_aload_n hx hb dX8_lays_114 rfl (lv_at hl 0 rfl) ?_
            refine z_get hx hb hU uU_X8 hown hK hP (p_101 hW) rfl rfl 1 (by decide) (hU _ uF_X8_7) rfl dX8_lays_115 ?_
            refine lv_bipush (v := 23) hx hb dX8_lays_118 rfl ?_
            refine lv_iconst (v := 1) hx hb dX8_lays_120 rfl ?_
            refine lv_iload_n hx hb dX8_lays_121 rfl (lv_at hl 1 rfl) ?_
            refine lv_ishl hx hb dX8_lays_122 ?_
            refine lv_iconst (v := 1) hx hb dX8_lays_123 rfl ?_
            refine lv_isub hx hb dX8_lays_124 ?_
            refine z_iastC (j := 23) hx hb hq hK hP hS (pA_102 hW) dX8_lays_125 rfl (by decide) h (fun S_3 H locs hP hS h => ?_)
            exact z_vret hx hb hlocks hP hS hQ hr dX8_lays_126 h
          · refine lv_aload_n hx hb dX8_lays_73 rfl (lv_at hl 0 rfl) ?_
            refine z_get hx hb hU uU_X8 hown hK hP (p_101 hW) rfl rfl 1 (by decide) (hU _ uF_X8_7) rfl dX8_lays_74 ?_
            refine lv_bipush (v := 7) hx hb dX8_lays_77 rfl ?_
            refine lv_iload_n hx hb dX8_lays_79 rfl (lv_at hl 2 rfl) ?_
            refine lv_iadd hx hb dX8_lays_80 ?_
            refine lv_iload_n hx hb dX8_lays_81 rfl (lv_at hl 2 rfl) ?_
            refine lv_iconst (v := 2) hx hb dX8_lays_82 rfl ?_
            refine lv_irem hx hb dX8_lays_83 (by decide) ?_
            refine z_if_ne (tgt := 92) hx hb dX8_lays_84 (by decide) h (fun h => ?_) (fun h => ?_)
            · refine lv_iconst (v := 3) hx hb dX8_lays_92 rfl ?_
              exact L93 x1 x3 3 (7 + x3) _ _ _ ls hP hS (lv_sub hl [0, 1, 2] rfl) h
            · refine lv_bipush (v := (-3)) hx hb dX8_lays_87 rfl ?_
              refine lv_goto (tgt := 93) hx hb dX8_lays_89 (by decide) ?_
              exact L93 x1 x3 (-3) (7 + x3) _ _ _ ls hP hS (lv_sub hl [0, 1, 2] rfl) h
      refine lv_iload_n hx hb dX8_lays_2 rfl (lv_at hl 3 rfl) ?_
      refine lv_bipush (v := 48) hx hb dX8_lays_3 rfl ?_
      refine z_icmp_ge (tgt := 21) hx hb dX8_lays_5 (by decide) h (fun h => ?_) (fun h => ?_)
      · refine lv_aload_n hx hb dX8_lays_21 rfl (lv_at hl 0 rfl) ?_
        refine z_get hx hb hU uU_X8 hown hK hP (p_101 hW) rfl rfl 1 (by decide) (hU _ uF_X8_7) rfl dX8_lays_22 ?_
        refine lv_iconst (v := 0) hx hb dX8_lays_25 rfl ?_
        refine lv_iload_n hx hb dX8_lays_26 rfl (lv_at hl 1 rfl) ?_
        refine z_iastC (j := 0) hx hb hq hK hP hS (pA_102 hW) dX8_lays_27 rfl (by decide) h (fun S_4 H locs hP hS h => ?_)
        refine lv_aload_n hx hb dX8_lays_28 rfl (lv_at hl 0 rfl) ?_
        refine z_get hx hb hU uU_X8 hown hK hP (p_101 hW) rfl rfl 1 (by decide) (hU _ uF_X8_7) rfl dX8_lays_29 ?_
        refine lv_iconst (v := 1) hx hb dX8_lays_32 rfl ?_
        refine lv_iload_n hx hb dX8_lays_33 rfl (lv_at hl 2 rfl) ?_
        refine z_iastC (j := 1) hx hb hq hK hP hS (pA_102 hW) dX8_lays_34 rfl (by decide) h (fun S_5 H locs hP hS h => ?_)
        refine lv_aload_n hx hb dX8_lays_35 rfl (lv_at hl 0 rfl) ?_
        refine z_get hx hb hU uU_X8 hown hK hP (p_101 hW) rfl rfl 1 (by decide) (hU _ uF_X8_7) rfl dX8_lays_36 ?_
        refine lv_iconst (v := 3) hx hb dX8_lays_39 rfl ?_
        refine lv_bipush (v := 10) hx hb dX8_lays_40 rfl ?_
        refine z_iastC (j := 3) hx hb hq hK hP hS (pA_102 hW) dX8_lays_42 rfl (by decide) h (fun S_6 H locs hP hS h => ?_)
        refine lv_aload_n hx hb dX8_lays_43 rfl (lv_at hl 0 rfl) ?_
        refine z_get hx hb hU uU_X8 hown hK hP (p_101 hW) rfl rfl 1 (by decide) (hU _ uF_X8_7) rfl dX8_lays_44 ?_
        refine lv_iconst (v := 5) hx hb dX8_lays_47 rfl ?_
        refine lv_iconst (v := 2) hx hb dX8_lays_48 rfl ?_
        refine lv_iload_n hx hb dX8_lays_49 rfl (lv_at hl 1 rfl) ?_
        refine lv_iconst (v := 1) hx hb dX8_lays_50 rfl ?_
        refine lv_iadd hx hb dX8_lays_51 ?_
        refine lv_iconst (v := 2) hx hb dX8_lays_52 rfl ?_
        refine lv_idiv hx hb dX8_lays_53 (by decide) ?_
        refine lv_iconst (v := 1) hx hb dX8_lays_54 rfl ?_
        refine lv_isub hx hb dX8_lays_55 ?_
        refine lv_imul hx hb dX8_lays_56 ?_
        refine z_iastC (j := 5) hx hb hq hK hP hS (pA_102 hW) dX8_lays_57 rfl (by decide) h (fun S_7 H locs hP hS h => ?_)
        refine lv_aload_n hx hb dX8_lays_58 rfl (lv_at hl 0 rfl) ?_
        refine z_get hx hb hU uU_X8 hown hK hP (p_101 hW) rfl rfl 1 (by decide) (hU _ uF_X8_7) rfl dX8_lays_59 ?_
        refine lv_bipush (v := 6) hx hb dX8_lays_62 rfl ?_
        refine lv_iconst (v := 1) hx hb dX8_lays_64 rfl ?_
        refine z_iastC (j := 6) hx hb hq hK hP hS (pA_102 hW) dX8_lays_65 rfl (by decide) h (fun S_8 H locs hP hS h => ?_)
        refine lv_iconst (v := 0) hx hb dX8_lays_66 rfl ?_
        refine lv_istore_n (lv' := [(3, .int 0), (0, .ref (q 101)), (1, .int x1), (2, .int x2)]) hx hb dX8_lays_67 rfl hl (by decide) rfl (fun ls hl => ?_)
        exact L68 zF x1 0 _ _ _ ls hP hS (lv_sub hl [1, 2, 0] rfl) h
      · refine lv_aload_n hx hb dX8_lays_8 rfl (lv_at hl 0 rfl) ?_
        refine z_get hx hb hU uU_X8 hown hK hP (p_101 hW) rfl rfl 1 (by decide) (hU _ uF_X8_7) rfl dX8_lays_9 ?_
        refine lv_iload_n hx hb dX8_lays_12 rfl (lv_at hl 3 rfl) ?_
        refine lv_iconst (v := 0) hx hb dX8_lays_13 rfl ?_
        refine z_iast hx hb hq hK hP hS (pA_102 hW) dX8_lays_14 h (fun S_9 H locs hP hS h => ?_)
        refine lv_iinc (v := (x3 + 1)) (lv' := [(3, .int (x3 + 1)), (0, .ref (q 101)), (1, .int x1), (2, .int x2)]) hx hb dX8_lays_15 hl (k := 3) rfl rfl (by decide) rfl (fun ls hl => ?_)
        refine lv_goto (tgt := 2) hx hb dX8_lays_18 (by decide) ?_
        exact ih2 x1 x2 (x3 + 1) _ _ _ ls hP hS (lv_sub hl [1, 2, 3, 0] rfl) h
  refine lv_iconst (v := 0) hx hb dX8_lays_0 rfl ?_
  refine lv_istore_n (lv' := [(3, .int 0), (0, .ref (q 101)), (1, .int a1), (2, .int a2)]) hx hb dX8_lays_1 rfl hl (by decide) rfl (fun ls hl => ?_)
  exact L2 zF a1 a2 0 _ _ _ ls hP hS (lv_sub hl [1, 2, 3, 0] rfl) h

def fX8_begins (S : zT) : Option zT :=
  (if (S.1 101 4) = 0 then zlet (zsi S 101 4 1) fun S_1 =>
  zbv (fX8_lays 4 0 S_1) fun S_2 =>
  some S_2 else some S)
abbrev rmX8_begins : Room := { frames := 1, cells := 0, slots := 0, locals := 23 }
theorem yd_X8_begins : yX8_begins.cls = RX8 ∧ yX8_begins.cls ≠ "java/lang/invoke/MethodHandle" ∧ yX8_begins.cls ≠ "java/lang/invoke/VarHandle" ∧ (parseMethodDescriptor yX8_begins.desc).map (fun d => d.parameters.length) = some 0 := by decide +kernel
set_option maxRecDepth 100000 in
set_option maxHeartbeats 4000000 in
theorem ctX8_begins {l : Launch} {dC : Nat → ClassId} {dI : Nat → Nat → Nat} {cI : ClassId × ClassId} {cW : List zSh} {q : Nat → Nat} (hq : zI cW q) (hW : zIs cI cW) {S : zT} {o : zT} (h : fX8_begins S = some o) : zCv l dC dI cI cW q yX8_begins (Cond.code yX8_begins cX8_begins 1 none :: zU) rmX8_begins [.ref (q 101)] S o := by
  refine zMet_v (lv := [(0, .ref (q 101))]) (by decide) (Nat.le_of_ble_eq_true rfl) rfl ?_
  intro p e s m args below meth c Q hx hb hml hr hU hown hlocks hK hN hP hS ls hl hQ
  replace hown : s.vm.findClass RX8 = some m.cls := hown
  unfold fX8_begins at h
  refine lv_aload_n hx hb dX8_begins_0 rfl (lv_at hl 0 rfl) ?_
  refine z_get hx hb hU uU_X8 hown hK hP (p_101 hW) rfl rfl 4 (by decide) (hU _ uF_X8_38) rfl dX8_begins_1 ?_
  refine z_if_eq (tgt := 8) hx hb dX8_begins_4 (by decide) h (fun h => ?_) (fun h => ?_)
  · refine lv_aload_n hx hb dX8_begins_8 rfl (lv_at hl 0 rfl) ?_
    refine lv_iconst (v := 1) hx hb dX8_begins_9 rfl ?_
    refine z_puti hx hb hU uU_X8 tyX8 tyX8_ok nmX8 hown hq hK hP hS (p_101 hW) rfl rfl 4 (by decide) (hU _ uF_X8_38) rfl rfl rfl (Nat.le_of_ble_eq_true rfl) rfl dX8_begins_10 h (fun S_1 H locs hP hS h => ?_)
    refine lv_aload_n hx hb dX8_begins_13 rfl (lv_at hl 0 rfl) ?_
    refine lv_iconst (v := 4) hx hb dX8_begins_14 rfl ?_
    refine lv_iconst (v := 0) hx hb dX8_begins_15 rfl ?_
    refine z_callV_v hx hb hml hown hU hK hN hP hS 2 (p_101 hW) rfl rfl (zU_V uL_X8_42 uI_X8_lays uS_X8_lays uN_X8 uC_X8_lays) yd_X8_lays ⟨rfl, rfl⟩ ⟨Nat.le_of_ble_eq_true rfl, Nat.le_of_ble_eq_true rfl⟩ (As := [.int 4, .int 0]) (fun o h9 => ctX8_lays hq hW h9) rfl hl.1 rfl (Nat.le_of_ble_eq_true rfl) dX8_begins_16 ⟨Nat.zero_le _, Nat.zero_le _⟩ h (fun S_2 H locs hP hS h => ?_)
    exact z_vret hx hb hlocks hP hS hQ hr dX8_begins_19 h
  · exact z_vret hx hb hlocks hP hS hQ hr dX8_begins_7 h

def fX8_keep_47 (rec : Int32 → zT → Option zT) (x1 : Int32) (S : zT) : Option zT :=
  (if 48 ≤ x1 then zlet (zsi S 101 3 ((S.1 101 3) + 1)) fun S_1 =>
  some S_1 else if ¬ (x1 < 0 ∨ 48 ≤ x1.toNatClampNeg) then if ¬ ((((S.1 101 3) * 48) + x1) < 0 ∨ 384 ≤ (((S.1 101 3) * 48) + x1).toNatClampNeg) then zlet (zsi S 103 (((S.1 101 3) * 48) + x1).toNatClampNeg (S.1 102 x1.toNatClampNeg)) (fun S_2 =>
  rec (x1 + 1) S_2) else none else none)
def fX8_keep_45 (S : zT) : Option zT :=
  (zfix (fun _ _ => none) fX8_keep_47 zF) 0 S
def fX8_keep_11 (k45 : zT → Option zT) (rec : Int32 → zT → Option zT) (x1 : Int32) (S : zT) : Option zT :=
  (if 336 ≤ x1 then zlet (zsi S 101 3 7) fun S_3 =>
  k45 S_3 else if ¬ ((x1 + 48) < 0 ∨ 384 ≤ (x1 + 48).toNatClampNeg) then if ¬ (x1 < 0 ∨ 384 ≤ x1.toNatClampNeg) then zlet (zsi S 103 x1.toNatClampNeg (S.1 103 (x1 + 48).toNatClampNeg)) (fun S_4 =>
  rec (x1 + 1) S_4) else none else none)
def fX8_keep (S : zT) : Option zT :=
  (if (S.1 101 3) = 8 then (zfix (fun _ _ => none) (fX8_keep_11 fX8_keep_45) zF) 0 S else fX8_keep_45 S)
abbrev rmX8_keep : Room := { frames := 0, cells := 0, slots := 0, locals := 0 }
theorem yd_X8_keep : yX8_keep.cls = RX8 ∧ yX8_keep.cls ≠ "java/lang/invoke/MethodHandle" ∧ yX8_keep.cls ≠ "java/lang/invoke/VarHandle" ∧ (parseMethodDescriptor yX8_keep.desc).map (fun d => d.parameters.length) = some 0 := by decide +kernel
set_option maxRecDepth 100000 in
set_option maxHeartbeats 4000000 in
theorem ctX8_keep {l : Launch} {dC : Nat → ClassId} {dI : Nat → Nat → Nat} {cI : ClassId × ClassId} {cW : List zSh} {q : Nat → Nat} (hq : zI cW q) (hW : zIs cI cW) {S : zT} {o : zT} (h : fX8_keep S = some o) : zCv l dC dI cI cW q yX8_keep (Cond.code yX8_keep cX8_keep 2 none :: zU) rmX8_keep [.ref (q 101)] S o := by
  refine zMet_v (lv := [(0, .ref (q 101))]) (by decide) (Nat.le_of_ble_eq_true rfl) rfl ?_
  intro p e s m args below meth c Q hx hb hml hr hU hown hlocks hK hN hP hS ls hl hQ
  replace hown : s.vm.findClass RX8 = some m.cls := hown
  unfold fX8_keep at h
  have L45 : ∀ (S : zT) (H : Heap) (locs : List Loc) (ls : Array Slot), va_P (dC, dI) vwCl (zWd cI cW q S) H → va_S (zA cW q) s.heap H locs → lv_has ls 2 [(0, .ref (q 101))] → fX8_keep_45 S = some o → W p l e rmX8_keep s m args below meth c H locs 0 0 Q (F0 m 45 ls []) := by
    intro S H locs ls hP hS hl h
    unfold fX8_keep_45 at h
    have L47 : ∀ (n47 : Nat) (x1 : Int32) (S : zT) (H : Heap) (locs : List Loc) (ls : Array Slot), va_P (dC, dI) vwCl (zWd cI cW q S) H → va_S (zA cW q) s.heap H locs → lv_has ls 2 [(0, .ref (q 101)), (1, .int x1)] → (zfix (fun _ _ => none) fX8_keep_47 n47) x1 S = some o → W p l e rmX8_keep s m args below meth c H locs 0 0 Q (F0 m 47 ls []) := by
      intro n47
      induction n47 with
      | zero => intro x1 S H locs ls hP hS hl h; exact zno (show (none : Option zT) = some o from h)
      | succ n47 ih47 =>
        intro x1 S H locs ls hP hS hl h
        replace h : fX8_keep_47 (zfix (fun _ _ => none) fX8_keep_47 n47) x1 S = some o := h
        unfold fX8_keep_47 at h
        refine lv_iload_n hx hb dX8_keep_47 rfl (lv_at hl 1 rfl) ?_
        refine lv_bipush (v := 48) hx hb dX8_keep_48 rfl ?_
        refine z_icmp_ge (tgt := 79) hx hb dX8_keep_50 (by decide) h (fun h => ?_) (fun h => ?_)
        · refine lv_aload_n hx hb dX8_keep_79 rfl (lv_at hl 0 rfl) ?_
          refine lv_aload_n hx hb dX8_keep_80 rfl (lv_at hl 0 rfl) ?_
          refine z_get hx hb hU uU_X8 hown hK hP (p_101 hW) rfl rfl 3 (by decide) (hU _ uF_X8_46) rfl dX8_keep_81 ?_
          refine lv_iconst (v := 1) hx hb dX8_keep_84 rfl ?_
          refine lv_iadd hx hb dX8_keep_85 ?_
          refine z_puti hx hb hU uU_X8 tyX8 tyX8_ok nmX8 hown hq hK hP hS (p_101 hW) rfl rfl 3 (by decide) (hU _ uF_X8_46) rfl rfl rfl (Nat.le_of_ble_eq_true rfl) rfl dX8_keep_86 h (fun S_1 H locs hP hS h => ?_)
          exact z_vret hx hb hlocks hP hS hQ hr dX8_keep_89 h
        · refine lv_aload_n hx hb dX8_keep_53 rfl (lv_at hl 0 rfl) ?_
          refine z_get hx hb hU uU_X8 hown hK hP (p_101 hW) rfl rfl 2 (by decide) (hU _ uF_X8_13) rfl dX8_keep_54 ?_
          refine lv_aload_n hx hb dX8_keep_57 rfl (lv_at hl 0 rfl) ?_
          refine z_get hx hb hU uU_X8 hown hK hP (p_101 hW) rfl rfl 3 (by decide) (hU _ uF_X8_46) rfl dX8_keep_58 ?_
          refine lv_bipush (v := 48) hx hb dX8_keep_61 rfl ?_
          refine lv_imul hx hb dX8_keep_63 ?_
          refine lv_iload_n hx hb dX8_keep_64 rfl (lv_at hl 1 rfl) ?_
          refine lv_iadd hx hb dX8_keep_65 ?_
          refine lv_aload_n hx hb dX8_keep_66 rfl (lv_at hl 0 rfl) ?_
          refine z_get hx hb hU uU_X8 hown hK hP (p_101 hW) rfl rfl 1 (by decide) (hU _ uF_X8_7) rfl dX8_keep_67 ?_
          refine lv_iload_n hx hb dX8_keep_70 rfl (lv_at hl 1 rfl) ?_
          refine z_iald hx hb hK hP (pA_102 hW) dX8_keep_71 h (fun h => ?_)
          refine z_iast hx hb hq hK hP hS (pA_103 hW) dX8_keep_72 h (fun S_2 H locs hP hS h => ?_)
          refine lv_iinc (v := (x1 + 1)) (lv' := [(1, .int (x1 + 1)), (0, .ref (q 101))]) hx hb dX8_keep_73 hl (k := 1) rfl rfl (by decide) rfl (fun ls hl => ?_)
          refine lv_goto (tgt := 47) hx hb dX8_keep_76 (by decide) ?_
          exact ih47 (x1 + 1) _ _ _ ls hP hS (lv_sub hl [1, 0] rfl) h
    refine lv_iconst (v := 0) hx hb dX8_keep_45 rfl ?_
    refine lv_istore_n (lv' := [(1, .int 0), (0, .ref (q 101))]) hx hb dX8_keep_46 rfl hl (by decide) rfl (fun ls hl => ?_)
    exact L47 zF 0 _ _ _ ls hP hS (lv_sub hl [1, 0] rfl) h
  have L11 : ∀ (n11 : Nat) (x1 : Int32) (S : zT) (H : Heap) (locs : List Loc) (ls : Array Slot), va_P (dC, dI) vwCl (zWd cI cW q S) H → va_S (zA cW q) s.heap H locs → lv_has ls 2 [(0, .ref (q 101)), (1, .int x1)] → (zfix (fun _ _ => none) (fX8_keep_11 fX8_keep_45) n11) x1 S = some o → W p l e rmX8_keep s m args below meth c H locs 0 0 Q (F0 m 11 ls []) := by
    intro n11
    induction n11 with
    | zero => intro x1 S H locs ls hP hS hl h; exact zno (show (none : Option zT) = some o from h)
    | succ n11 ih11 =>
      intro x1 S H locs ls hP hS hl h
      replace h : fX8_keep_11 fX8_keep_45 (zfix (fun _ _ => none) (fX8_keep_11 fX8_keep_45) n11) x1 S = some o := h
      unfold fX8_keep_11 at h
      refine lv_iload_n hx hb dX8_keep_11 rfl (lv_at hl 1 rfl) ?_
      refine lv_sipush (v := 336) hx hb dX8_keep_12 rfl ?_
      refine z_icmp_ge (tgt := 39) hx hb dX8_keep_15 (by decide) h (fun h => ?_) (fun h => ?_)
      · refine lv_aload_n hx hb dX8_keep_39 rfl (lv_at hl 0 rfl) ?_
        refine lv_bipush (v := 7) hx hb dX8_keep_40 rfl ?_
        refine z_puti hx hb hU uU_X8 tyX8 tyX8_ok nmX8 hown hq hK hP hS (p_101 hW) rfl rfl 3 (by decide) (hU _ uF_X8_46) rfl rfl rfl (Nat.le_of_ble_eq_true rfl) rfl dX8_keep_42 h (fun S_3 H locs hP hS h => ?_)
        exact L45  _ _ _ ls hP hS (lv_sub hl [0] rfl) h
      · refine lv_aload_n hx hb dX8_keep_18 rfl (lv_at hl 0 rfl) ?_
        refine z_get hx hb hU uU_X8 hown hK hP (p_101 hW) rfl rfl 2 (by decide) (hU _ uF_X8_13) rfl dX8_keep_19 ?_
        refine lv_iload_n hx hb dX8_keep_22 rfl (lv_at hl 1 rfl) ?_
        refine lv_aload_n hx hb dX8_keep_23 rfl (lv_at hl 0 rfl) ?_
        refine z_get hx hb hU uU_X8 hown hK hP (p_101 hW) rfl rfl 2 (by decide) (hU _ uF_X8_13) rfl dX8_keep_24 ?_
        refine lv_iload_n hx hb dX8_keep_27 rfl (lv_at hl 1 rfl) ?_
        refine lv_bipush (v := 48) hx hb dX8_keep_28 rfl ?_
        refine lv_iadd hx hb dX8_keep_30 ?_
        refine z_iald hx hb hK hP (pA_103 hW) dX8_keep_31 h (fun h => ?_)
        refine z_iast hx hb hq hK hP hS (pA_103 hW) dX8_keep_32 h (fun S_4 H locs hP hS h => ?_)
        refine lv_iinc (v := (x1 + 1)) (lv' := [(1, .int (x1 + 1)), (0, .ref (q 101))]) hx hb dX8_keep_33 hl (k := 1) rfl rfl (by decide) rfl (fun ls hl => ?_)
        refine lv_goto (tgt := 11) hx hb dX8_keep_36 (by decide) ?_
        exact ih11 (x1 + 1) _ _ _ ls hP hS (lv_sub hl [1, 0] rfl) h
  refine lv_aload_n hx hb dX8_keep_0 rfl (lv_at hl 0 rfl) ?_
  refine z_get hx hb hU uU_X8 hown hK hP (p_101 hW) rfl rfl 3 (by decide) (hU _ uF_X8_46) rfl dX8_keep_1 ?_
  refine lv_bipush (v := 8) hx hb dX8_keep_4 rfl ?_
  refine z_icmp_ne (tgt := 45) hx hb dX8_keep_6 (by decide) h (fun h => ?_) (fun h => ?_)
  · exact L45  _ _ _ ls hP hS (lv_sub hl [0] rfl) h
  · refine lv_iconst (v := 0) hx hb dX8_keep_9 rfl ?_
    refine lv_istore_n (lv' := [(1, .int 0), (0, .ref (q 101))]) hx hb dX8_keep_10 rfl hl (by decide) rfl (fun ls hl => ?_)
    exact L11 zF 0 _ _ _ ls hP hS (lv_sub hl [1, 0] rfl) h

def fX8_undo_30 (rec : Int32 → zT → Option (Int32 × zT)) (x1 : Int32) (S : zT) : Option (Int32 × zT) :=
  (if 48 ≤ x1 then some (1, S) else if ¬ ((((S.1 101 3) * 48) + x1) < 0 ∨ 384 ≤ (((S.1 101 3) * 48) + x1).toNatClampNeg) then if ¬ (x1 < 0 ∨ 48 ≤ x1.toNatClampNeg) then zlet (zsi S 102 x1.toNatClampNeg (S.1 103 (((S.1 101 3) * 48) + x1).toNatClampNeg)) (fun S_1 =>
  rec (x1 + 1) S_1) else none else none)
def fX8_undo (S : zT) : Option (Int32 × zT) :=
  zlet (zsi S 101 0 0) fun S_2 =>
  zbv (fX8_begins S_2) fun S_3 =>
  (if (S_3.1 101 3) = 0 then some (0, S_3) else zlet (zsi S_3 101 3 ((S_3.1 101 3) - 1)) fun S_4 =>
  (zfix (fun _ _ => none) fX8_undo_30 zF) 0 S_4)
abbrev rmX8_undo : Room := { frames := 2, cells := 0, slots := 0, locals := 43 }
theorem yd_X8_undo : yX8_undo.cls = RX8 ∧ yX8_undo.cls ≠ "java/lang/invoke/MethodHandle" ∧ yX8_undo.cls ≠ "java/lang/invoke/VarHandle" ∧ (parseMethodDescriptor yX8_undo.desc).map (fun d => d.parameters.length) = some 0 := by decide +kernel
set_option maxRecDepth 100000 in
set_option maxHeartbeats 4000000 in
theorem ctX8_undo {l : Launch} {dC : Nat → ClassId} {dI : Nat → Nat → Nat} {cI : ClassId × ClassId} {cW : List zSh} {q : Nat → Nat} (hq : zI cW q) (hW : zIs cI cW) {S : zT} {o : Int32 × zT} (h : fX8_undo S = some o) : zCi l dC dI cI cW q yX8_undo (Cond.code yX8_undo cX8_undo 2 (some .boolean) :: zU) rmX8_undo [.ref (q 101)] S o := by
  refine zMet_i (lv := [(0, .ref (q 101))]) (by decide) (Nat.le_of_ble_eq_true rfl) rfl ?_
  intro p e s m args below meth c Q hx hb hml hr hU hown hlocks hK hN hP hS ls hl hQ
  replace hown : s.vm.findClass RX8 = some m.cls := hown
  unfold fX8_undo at h
  have L30 : ∀ (n30 : Nat) (x1 : Int32) (S : zT) (H : Heap) (locs : List Loc) (ls : Array Slot), va_P (dC, dI) vwCl (zWd cI cW q S) H → va_S (zA cW q) s.heap H locs → lv_has ls 2 [(0, .ref (q 101)), (1, .int x1)] → (zfix (fun _ _ => none) fX8_undo_30 n30) x1 S = some o → W p l e rmX8_undo s m args below meth c H locs 0 0 Q (F0 m 30 ls []) := by
    intro n30
    induction n30 with
    | zero => intro x1 S H locs ls hP hS hl h; exact zno (show (none : Option (Int32 × zT)) = some o from h)
    | succ n30 ih30 =>
      intro x1 S H locs ls hP hS hl h
      replace h : fX8_undo_30 (zfix (fun _ _ => none) fX8_undo_30 n30) x1 S = some o := h
      unfold fX8_undo_30 at h
      refine lv_iload_n hx hb dX8_undo_30 rfl (lv_at hl 1 rfl) ?_
      refine lv_bipush (v := 48) hx hb dX8_undo_31 rfl ?_
      refine z_icmp_ge (tgt := 62) hx hb dX8_undo_33 (by decide) h (fun h => ?_) (fun h => ?_)
      · refine lv_iconst (v := 1) hx hb dX8_undo_62 rfl ?_
        exact z_zretC hx hb hlocks hP hS hQ hr dX8_undo_63 (Or.inr rfl) h
      · refine lv_aload_n hx hb dX8_undo_36 rfl (lv_at hl 0 rfl) ?_
        refine z_get hx hb hU uU_X8 hown hK hP (p_101 hW) rfl rfl 1 (by decide) (hU _ uF_X8_7) rfl dX8_undo_37 ?_
        refine lv_iload_n hx hb dX8_undo_40 rfl (lv_at hl 1 rfl) ?_
        refine lv_aload_n hx hb dX8_undo_41 rfl (lv_at hl 0 rfl) ?_
        refine z_get hx hb hU uU_X8 hown hK hP (p_101 hW) rfl rfl 2 (by decide) (hU _ uF_X8_13) rfl dX8_undo_42 ?_
        refine lv_aload_n hx hb dX8_undo_45 rfl (lv_at hl 0 rfl) ?_
        refine z_get hx hb hU uU_X8 hown hK hP (p_101 hW) rfl rfl 3 (by decide) (hU _ uF_X8_46) rfl dX8_undo_46 ?_
        refine lv_bipush (v := 48) hx hb dX8_undo_49 rfl ?_
        refine lv_imul hx hb dX8_undo_51 ?_
        refine lv_iload_n hx hb dX8_undo_52 rfl (lv_at hl 1 rfl) ?_
        refine lv_iadd hx hb dX8_undo_53 ?_
        refine z_iald hx hb hK hP (pA_103 hW) dX8_undo_54 h (fun h => ?_)
        refine z_iast hx hb hq hK hP hS (pA_102 hW) dX8_undo_55 h (fun S_1 H locs hP hS h => ?_)
        refine lv_iinc (v := (x1 + 1)) (lv' := [(1, .int (x1 + 1)), (0, .ref (q 101))]) hx hb dX8_undo_56 hl (k := 1) rfl rfl (by decide) rfl (fun ls hl => ?_)
        refine lv_goto (tgt := 30) hx hb dX8_undo_59 (by decide) ?_
        exact ih30 (x1 + 1) _ _ _ ls hP hS (lv_sub hl [1, 0] rfl) h
  refine lv_aload_n hx hb dX8_undo_0 rfl (lv_at hl 0 rfl) ?_
  refine lv_iconst (v := 0) hx hb dX8_undo_1 rfl ?_
  refine z_puti hx hb hU uU_X8 tyX8 tyX8_ok nmX8 hown hq hK hP hS (p_101 hW) rfl rfl 0 (by decide) (hU _ uF_X8_34) rfl rfl rfl (Nat.le_of_ble_eq_true rfl) rfl dX8_undo_2 h (fun S_2 H locs hP hS h => ?_)
  refine lv_aload_n hx hb dX8_undo_5 rfl (lv_at hl 0 rfl) ?_
  refine z_callV_v hx hb hml hown hU hK hN hP hS 0 (p_101 hW) rfl rfl (zU_V uL_X8_49 uI_X8_begins uS_X8_begins uN_X8 uC_X8_begins) yd_X8_begins ⟨rfl, rfl⟩ ⟨Nat.le_of_ble_eq_true rfl, Nat.le_of_ble_eq_true rfl⟩ (As := []) (fun o h9 => ctX8_begins hq hW h9) rfl hl.1 rfl (Nat.le_of_ble_eq_true rfl) dX8_undo_6 ⟨Nat.zero_le _, Nat.zero_le _⟩ h (fun S_3 H locs hP hS h => ?_)
  refine lv_aload_n hx hb dX8_undo_9 rfl (lv_at hl 0 rfl) ?_
  refine z_get hx hb hU uU_X8 hown hK hP (p_101 hW) rfl rfl 3 (by decide) (hU _ uF_X8_46) rfl dX8_undo_10 ?_
  refine z_if_ne (tgt := 18) hx hb dX8_undo_13 (by decide) h (fun h => ?_) (fun h => ?_)
  · refine lv_aload_n hx hb dX8_undo_18 rfl (lv_at hl 0 rfl) ?_
    refine lv_aload_n hx hb dX8_undo_19 rfl (lv_at hl 0 rfl) ?_
    refine z_get hx hb hU uU_X8 hown hK hP (p_101 hW) rfl rfl 3 (by decide) (hU _ uF_X8_46) rfl dX8_undo_20 ?_
    refine lv_iconst (v := 1) hx hb dX8_undo_23 rfl ?_
    refine lv_isub hx hb dX8_undo_24 ?_
    refine z_puti hx hb hU uU_X8 tyX8 tyX8_ok nmX8 hown hq hK hP hS (p_101 hW) rfl rfl 3 (by decide) (hU _ uF_X8_46) rfl rfl rfl (Nat.le_of_ble_eq_true rfl) rfl dX8_undo_25 h (fun S_4 H locs hP hS h => ?_)
    refine lv_iconst (v := 0) hx hb dX8_undo_28 rfl ?_
    refine lv_istore_n (lv' := [(1, .int 0), (0, .ref (q 101))]) hx hb dX8_undo_29 rfl hl (by decide) rfl (fun ls hl => ?_)
    exact L30 zF 0 _ _ _ ls hP hS (lv_sub hl [1, 0] rfl) h
  · refine lv_iconst (v := 0) hx hb dX8_undo_16 rfl ?_
    exact z_zretC hx hb hlocks hP hS hQ hr dX8_undo_17 (Or.inl rfl) h

def fX8_walker (a1 : Int32) (a2 : Int32) (S : zT) : Option (Int32 × zT) :=
  zlet (zsi S 101 0 0) fun S_1 =>
  zbv (fX8_begins S_1) fun S_2 =>
  (if a1 < 2 then some (0, S_2) else (if 8 < a1 then some (0, S_2) else (if a2 < 0 then some (0, S_2) else (if a2 ≤ 2 then zbv (fX8_keep S_2) fun S_3 =>
  zbv (fX8_lays a1 a2 S_3) fun S_4 =>
  some (1, S_4) else some (0, S_2)))))
abbrev rmX8_walker : Room := { frames := 2, cells := 0, slots := 0, locals := 43 }
theorem yd_X8_walker : yX8_walker.cls = RX8 ∧ yX8_walker.cls ≠ "java/lang/invoke/MethodHandle" ∧ yX8_walker.cls ≠ "java/lang/invoke/VarHandle" ∧ (parseMethodDescriptor yX8_walker.desc).map (fun d => d.parameters.length) = some 2 := by decide +kernel
set_option maxRecDepth 100000 in
set_option maxHeartbeats 4000000 in
theorem ctX8_walker {l : Launch} {dC : Nat → ClassId} {dI : Nat → Nat → Nat} {cI : ClassId × ClassId} {cW : List zSh} {q : Nat → Nat} (hq : zI cW q) (hW : zIs cI cW) {a1 : Int32} {a2 : Int32} {S : zT} {o : Int32 × zT} (h : fX8_walker a1 a2 S = some o) : zCi l dC dI cI cW q yX8_walker (Cond.code yX8_walker cX8_walker 3 (some .boolean) :: zU) rmX8_walker [.ref (q 101), .int a1, .int a2] S o := by
  refine zMet_i (lv := [(0, .ref (q 101)), (1, .int a1), (2, .int a2)]) (by decide) (Nat.le_of_ble_eq_true rfl) rfl ?_
  intro p e s m args below meth c Q hx hb hml hr hU hown hlocks hK hN hP hS ls hl hQ
  replace hown : s.vm.findClass RX8 = some m.cls := hown
  unfold fX8_walker at h
  refine lv_aload_n hx hb dX8_walker_0 rfl (lv_at hl 0 rfl) ?_
  refine lv_iconst (v := 0) hx hb dX8_walker_1 rfl ?_
  refine z_puti hx hb hU uU_X8 tyX8 tyX8_ok nmX8 hown hq hK hP hS (p_101 hW) rfl rfl 0 (by decide) (hU _ uF_X8_34) rfl rfl rfl (Nat.le_of_ble_eq_true rfl) rfl dX8_walker_2 h (fun S_1 H locs hP hS h => ?_)
  refine lv_aload_n hx hb dX8_walker_5 rfl (lv_at hl 0 rfl) ?_
  refine z_callV_v hx hb hml hown hU hK hN hP hS 0 (p_101 hW) rfl rfl (zU_V uL_X8_49 uI_X8_begins uS_X8_begins uN_X8 uC_X8_begins) yd_X8_begins ⟨rfl, rfl⟩ ⟨Nat.le_of_ble_eq_true rfl, Nat.le_of_ble_eq_true rfl⟩ (As := []) (fun o h9 => ctX8_begins hq hW h9) rfl hl.1 rfl (Nat.le_of_ble_eq_true rfl) dX8_walker_6 ⟨Nat.zero_le _, Nat.zero_le _⟩ h (fun S_2 H locs hP hS h => ?_)
  refine lv_iload_n hx hb dX8_walker_9 rfl (lv_at hl 1 rfl) ?_
  refine lv_iconst (v := 2) hx hb dX8_walker_10 rfl ?_
  refine z_icmp_lt (tgt := 29) hx hb dX8_walker_11 (by decide) h (fun h => ?_) (fun h => ?_)
  · refine lv_iconst (v := 0) hx hb dX8_walker_29 rfl ?_
    exact z_zretC hx hb hlocks hP hS hQ hr dX8_walker_30 (Or.inl rfl) h
  · refine lv_iload_n hx hb dX8_walker_14 rfl (lv_at hl 1 rfl) ?_
    refine lv_bipush (v := 8) hx hb dX8_walker_15 rfl ?_
    refine z_icmp_gt (tgt := 29) hx hb dX8_walker_17 (by decide) h (fun h => ?_) (fun h => ?_)
    · refine lv_iconst (v := 0) hx hb dX8_walker_29 rfl ?_
      exact z_zretC hx hb hlocks hP hS hQ hr dX8_walker_30 (Or.inl rfl) h
    · refine lv_iload_n hx hb dX8_walker_20 rfl (lv_at hl 2 rfl) ?_
      refine z_if_lt (tgt := 29) hx hb dX8_walker_21 (by decide) h (fun h => ?_) (fun h => ?_)
      · refine lv_iconst (v := 0) hx hb dX8_walker_29 rfl ?_
        exact z_zretC hx hb hlocks hP hS hQ hr dX8_walker_30 (Or.inl rfl) h
      · refine lv_iload_n hx hb dX8_walker_24 rfl (lv_at hl 2 rfl) ?_
        refine lv_iconst (v := 2) hx hb dX8_walker_25 rfl ?_
        refine z_icmp_le (tgt := 31) hx hb dX8_walker_26 (by decide) h (fun h => ?_) (fun h => ?_)
        · refine lv_aload_n hx hb dX8_walker_31 rfl (lv_at hl 0 rfl) ?_
          refine z_callV_v hx hb hml hown hU hK hN hP hS 0 (p_101 hW) rfl rfl (zU_V uL_X8_52 uI_X8_keep uS_X8_keep uN_X8 uC_X8_keep) yd_X8_keep ⟨rfl, rfl⟩ ⟨Nat.le_of_ble_eq_true rfl, Nat.le_of_ble_eq_true rfl⟩ (As := []) (fun o h9 => ctX8_keep hq hW h9) rfl hl.1 rfl (Nat.le_of_ble_eq_true rfl) dX8_walker_32 ⟨Nat.zero_le _, Nat.zero_le _⟩ h (fun S_3 H locs hP hS h => ?_)
          refine lv_aload_n hx hb dX8_walker_35 rfl (lv_at hl 0 rfl) ?_
          refine lv_iload_n hx hb dX8_walker_36 rfl (lv_at hl 1 rfl) ?_
          refine lv_iload_n hx hb dX8_walker_37 rfl (lv_at hl 2 rfl) ?_
          refine z_callV_v hx hb hml hown hU hK hN hP hS 2 (p_101 hW) rfl rfl (zU_V uL_X8_42 uI_X8_lays uS_X8_lays uN_X8 uC_X8_lays) yd_X8_lays ⟨rfl, rfl⟩ ⟨Nat.le_of_ble_eq_true rfl, Nat.le_of_ble_eq_true rfl⟩ (As := [.int a1, .int a2]) (fun o h9 => ctX8_lays hq hW h9) rfl hl.1 rfl (Nat.le_of_ble_eq_true rfl) dX8_walker_38 ⟨Nat.zero_le _, Nat.zero_le _⟩ h (fun S_4 H locs hP hS h => ?_)
          refine lv_iconst (v := 1) hx hb dX8_walker_41 rfl ?_
          exact z_zretC hx hb hlocks hP hS hQ hr dX8_walker_42 (Or.inr rfl) h
        · refine lv_iconst (v := 0) hx hb dX8_walker_29 rfl ?_
          exact z_zretC hx hb hlocks hP hS hQ hr dX8_walker_30 (Or.inl rfl) h

def fX8_isLeg (a1 : Int32) (S : zT) : Option (Int32 × zT) :=
  (if a1 < 0 then some (0, S) else (if (S.1 102 0) ≤ a1 then some (0, S) else some (1, S)))
abbrev rmX8_isLeg : Room := { frames := 0, cells := 0, slots := 0, locals := 0 }
theorem yd_X8_isLeg : yX8_isLeg.cls = RX8 ∧ yX8_isLeg.cls ≠ "java/lang/invoke/MethodHandle" ∧ yX8_isLeg.cls ≠ "java/lang/invoke/VarHandle" ∧ (parseMethodDescriptor yX8_isLeg.desc).map (fun d => d.parameters.length) = some 1 := by decide +kernel
set_option maxRecDepth 100000 in
set_option maxHeartbeats 4000000 in
theorem ctX8_isLeg {l : Launch} {dC : Nat → ClassId} {dI : Nat → Nat → Nat} {cI : ClassId × ClassId} {cW : List zSh} {q : Nat → Nat} (hq : zI cW q) (hW : zIs cI cW) {a1 : Int32} {S : zT} {o : Int32 × zT} (h : fX8_isLeg a1 S = some o) : zCi l dC dI cI cW q yX8_isLeg (Cond.code yX8_isLeg cX8_isLeg 2 (some .boolean) :: zU) rmX8_isLeg [.ref (q 101), .int a1] S o := by
  refine zMet_i (lv := [(0, .ref (q 101)), (1, .int a1)]) (by decide) (Nat.le_of_ble_eq_true rfl) rfl ?_
  intro p e s m args below meth c Q hx hb hml hr hU hown hlocks hK hN hP hS ls hl hQ
  replace hown : s.vm.findClass RX8 = some m.cls := hown
  unfold fX8_isLeg at h
  refine lv_iload_n hx hb dX8_isLeg_0 rfl (lv_at hl 1 rfl) ?_
  refine z_if_lt (tgt := 18) hx hb dX8_isLeg_1 (by decide) h (fun h => ?_) (fun h => ?_)
  · refine lv_iconst (v := 0) hx hb dX8_isLeg_18 rfl ?_
    exact z_zretC hx hb hlocks hP hS hQ hr dX8_isLeg_19 (Or.inl rfl) h
  · refine lv_iload_n hx hb dX8_isLeg_4 rfl (lv_at hl 1 rfl) ?_
    refine lv_aload_n hx hb dX8_isLeg_5 rfl (lv_at hl 0 rfl) ?_
    refine z_get hx hb hU uU_X8 hown hK hP (p_101 hW) rfl rfl 1 (by decide) (hU _ uF_X8_7) rfl dX8_isLeg_6 ?_
    refine lv_iconst (v := 0) hx hb dX8_isLeg_9 rfl ?_
    refine z_ialdC (j := 0) hx hb hK hP (pA_102 hW) dX8_isLeg_10 rfl (by decide) ?_
    refine z_icmp_ge (tgt := 18) hx hb dX8_isLeg_11 (by decide) h (fun h => ?_) (fun h => ?_)
    · refine lv_iconst (v := 0) hx hb dX8_isLeg_18 rfl ?_
      exact z_zretC hx hb hlocks hP hS hQ hr dX8_isLeg_19 (Or.inl rfl) h
    · refine lv_iconst (v := 1) hx hb dX8_isLeg_14 rfl ?_
      refine lv_goto (tgt := 19) hx hb dX8_isLeg_15 (by decide) ?_
      exact z_zretC hx hb hlocks hP hS hQ hr dX8_isLeg_19 (Or.inr rfl) h

def fX8_isPlace (a1 : Int32) (a2 : Int32) (S : zT) : Option (Int32 × zT) :=
  (if a1 < (-20) then some (0, S) else (if 20 < a1 then some (0, S) else (if a2 < (-20) then some (0, S) else (if 20 < a2 then some (0, S) else some (1, S)))))
abbrev rmX8_isPlace : Room := { frames := 0, cells := 0, slots := 0, locals := 0 }
theorem yd_X8_isPlace : yX8_isPlace.cls = RX8 ∧ yX8_isPlace.cls ≠ "java/lang/invoke/MethodHandle" ∧ yX8_isPlace.cls ≠ "java/lang/invoke/VarHandle" ∧ (parseMethodDescriptor yX8_isPlace.desc).map (fun d => d.parameters.length) = some 2 := by decide +kernel
set_option maxRecDepth 100000 in
set_option maxHeartbeats 4000000 in
theorem ctX8_isPlace {l : Launch} {dC : Nat → ClassId} {dI : Nat → Nat → Nat} {cI : ClassId × ClassId} {cW : List zSh} {q : Nat → Nat} (hq : zI cW q) (hW : zIs cI cW) {a1 : Int32} {a2 : Int32} {S : zT} {o : Int32 × zT} (h : fX8_isPlace a1 a2 S = some o) : zCi l dC dI cI cW q yX8_isPlace (Cond.code yX8_isPlace cX8_isPlace 3 (some .boolean) :: zU) rmX8_isPlace [.ref (q 101), .int a1, .int a2] S o := by
  refine zMet_i (lv := [(0, .ref (q 101)), (1, .int a1), (2, .int a2)]) (by decide) (Nat.le_of_ble_eq_true rfl) rfl ?_
  intro p e s m args below meth c Q hx hb hml hr hU hown hlocks hK hN hP hS ls hl hQ
  replace hown : s.vm.findClass RX8 = some m.cls := hown
  unfold fX8_isPlace at h
  refine lv_iload_n hx hb dX8_isPlace_0 rfl (lv_at hl 1 rfl) ?_
  refine lv_bipush (v := (-20)) hx hb dX8_isPlace_1 rfl ?_
  refine z_icmp_lt (tgt := 28) hx hb dX8_isPlace_3 (by decide) h (fun h => ?_) (fun h => ?_)
  · refine lv_iconst (v := 0) hx hb dX8_isPlace_28 rfl ?_
    exact z_zretC hx hb hlocks hP hS hQ hr dX8_isPlace_29 (Or.inl rfl) h
  · refine lv_iload_n hx hb dX8_isPlace_6 rfl (lv_at hl 1 rfl) ?_
    refine lv_bipush (v := 20) hx hb dX8_isPlace_7 rfl ?_
    refine z_icmp_gt (tgt := 28) hx hb dX8_isPlace_9 (by decide) h (fun h => ?_) (fun h => ?_)
    · refine lv_iconst (v := 0) hx hb dX8_isPlace_28 rfl ?_
      exact z_zretC hx hb hlocks hP hS hQ hr dX8_isPlace_29 (Or.inl rfl) h
    · refine lv_iload_n hx hb dX8_isPlace_12 rfl (lv_at hl 2 rfl) ?_
      refine lv_bipush (v := (-20)) hx hb dX8_isPlace_13 rfl ?_
      refine z_icmp_lt (tgt := 28) hx hb dX8_isPlace_15 (by decide) h (fun h => ?_) (fun h => ?_)
      · refine lv_iconst (v := 0) hx hb dX8_isPlace_28 rfl ?_
        exact z_zretC hx hb hlocks hP hS hQ hr dX8_isPlace_29 (Or.inl rfl) h
      · refine lv_iload_n hx hb dX8_isPlace_18 rfl (lv_at hl 2 rfl) ?_
        refine lv_bipush (v := 20) hx hb dX8_isPlace_19 rfl ?_
        refine z_icmp_gt (tgt := 28) hx hb dX8_isPlace_21 (by decide) h (fun h => ?_) (fun h => ?_)
        · refine lv_iconst (v := 0) hx hb dX8_isPlace_28 rfl ?_
          exact z_zretC hx hb hlocks hP hS hQ hr dX8_isPlace_29 (Or.inl rfl) h
        · refine lv_iconst (v := 1) hx hb dX8_isPlace_24 rfl ?_
          refine lv_goto (tgt := 29) hx hb dX8_isPlace_25 (by decide) ?_
          exact z_zretC hx hb hlocks hP hS hQ hr dX8_isPlace_29 (Or.inr rfl) h

