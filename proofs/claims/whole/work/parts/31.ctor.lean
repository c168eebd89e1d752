def kRow (cI : ClassId × ClassId) (n : Nat) : List zSh := [sRow 0, sArr cI n]
def kWk (cI : ClassId × ClassId) : List zSh := [sWk 0, sRow 1, sArr cI 8, sRow 3, sArr cI 8, sRow 5, sArr cI 16]
def kRat (cI : ClassId × ClassId) : List zSh := [sRat]
def kSpan (cI : ClassId × ClassId) : List zSh := [(fun q s _ => .inr (4, [.ref (q 1), .ref (q 3), .ref (q 5), .ref (q 7), .int (s 4), .int (s 5), .ref (q 9), .ref (q 10), .ref (q 11)]) : zSh), sRow 1, sArr cI 8, sRow 3, sArr cI 8, sRow 5, sArr cI 8, sRow 7, sArr cI 8, sRat, sRat, sRat]
def kStr (cI : ClassId × ClassId) : List zSh := [(fun q s _ => .inr (5, [.ref (q 1), .ref (q 8), .ref (q 10), .ref (q 12), .int (s 4), .ref (q 14), .ref (q 26)]) : zSh), sWk 1, sRow 2, sArr cI 8, sRow 4, sArr cI 8, sRow 6, sArr cI 16, sRow 8, sArr cI 128, sRow 10, sArr cI 8, sRow 12, sArr cI 256, (fun q s _ => .inr (4, [.ref (q 15), .ref (q 17), .ref (q 19), .ref (q 21), .int (s 4), .int (s 5), .ref (q 23), .ref (q 24), .ref (q 25)]) : zSh), sRow 15, sArr cI 8, sRow 17, sArr cI 8, sRow 19, sArr cI 8, sRow 21, sArr cI 8, sRat, sRat, sRat, sRat]
def kRows (cI : ClassId × ClassId) : List zSh := [(fun q s _ => .inr (3, [.ref (q 1), .ref (q 2), .ref (q 28), .ref (q 30), .int (s 4)]) : zSh), (fun q s _ => .inr (5, [.ref (q 2), .ref (q 9), .ref (q 11), .ref (q 13), .int (s 4), .ref (q 15), .ref (q 27)]) : zSh), sWk 2, sRow 3, sArr cI 8, sRow 5, sArr cI 8, sRow 7, sArr cI 16, sRow 9, sArr cI 128, sRow 11, sArr cI 8, sRow 13, sArr cI 256, (fun q s _ => .inr (4, [.ref (q 16), .ref (q 18), .ref (q 20), .ref (q 22), .int (s 4), .int (s 5), .ref (q 24), .ref (q 25), .ref (q 26)]) : zSh), sRow 16, sArr cI 8, sRow 18, sArr cI 8, sRow 20, sArr cI 8, sRow 22, sArr cI 8, sRat, sRat, sRat, sRat, sRow 28, sArr cI 8, sRow 30, sArr cI 79]
def kHis (cI : ClassId × ClassId) : List zSh := [(fun q s _ => .inr (0, [.ref (q 1), .int (s 1), .int (s 2)]) : zSh), (fun q _ _ => .inl (cI.2, 8, .inr (.inr (.inr (.inr (fun i => some (q (2 + 7 * i))))))) : zSh), sWk 2, sRow 3, sArr cI 8, sRow 5, sArr cI 8, sRow 7, sArr cI 16, sWk 9, sRow 10, sArr cI 8, sRow 12, sArr cI 8, sRow 14, sArr cI 16, sWk 16, sRow 17, sArr cI 8, sRow 19, sArr cI 8, sRow 21, sArr cI 16, sWk 23, sRow 24, sArr cI 8, sRow 26, sArr cI 8, sRow 28, sArr cI 16, sWk 30, sRow 31, sArr cI 8, sRow 33, sArr cI 8, sRow 35, sArr cI 16, sWk 37, sRow 38, sArr cI 8, sRow 40, sArr cI 8, sRow 42, sArr cI 16, sWk 44, sRow 45, sArr cI 8, sRow 47, sArr cI 8, sRow 49, sArr cI 16, sWk 51, sRow 52, sArr cI 8, sRow 54, sArr cI 8, sRow 56, sArr cI 16]
def kMod (cI : ClassId × ClassId) : List zSh := [(fun q s l => .inr (8, [.int (s 0), .ref (q 1), .ref (q 2), .int (s 3), .int (s 4), .int (s 5), .ref (q 3), .ref (q 4), .int (s 8), .int (s 9), .int (s 10), .int (s 11), .int (s 12), .long (l 13), .long (l 14), .long (l 15), .long (l 16), .int (s 17), .ref (q 5), .ref (q 6), .ref (q 7), .ref (q 8)]) : zSh), sArr cI 48, sArr cI 384, sArr cI 8, sArr cI 8, sArr cI 48, sArr cI 8, sArr cI 256, sArr cI 256]
def kLB (cI : ClassId × ClassId) : List zSh := (zSH cI).take 101
theorem dfX0 : ∀ j, j < 3 → defaultValue (tyX0 j) = vp_V [.null, .int 0, .int 0] j := by
  intro j hj
  rcases (show j = 0 ∨ j = 1 ∨ j = 2 by omega) with rfl | rfl | rfl <;> rfl
theorem dfX1 : ∀ j, j < 2 → defaultValue (tyX1 j) = vp_V [.long 0, .long 0] j := by
  intro j hj
  rcases (show j = 0 ∨ j = 1 by omega) with rfl | rfl <;> rfl
theorem dfX2 : ∀ j, j < 1 → defaultValue (tyX2 j) = vp_V [.null] j := by
  intro j hj
  rcases (show j = 0 by omega) with rfl <;> rfl
theorem dfX3 : ∀ j, j < 5 → defaultValue (tyX3 j) = vp_V [.null, .null, .null, .null, .int 0] j := by
  intro j hj
  rcases (show j = 0 ∨ j = 1 ∨ j = 2 ∨ j = 3 ∨ j = 4 by omega) with rfl | rfl | rfl | rfl | rfl <;> rfl
theorem dfX4 : ∀ j, j < 9 → defaultValue (tyX4 j) = vp_V [.null, .null, .null, .null, .int 0, .int 0, .null, .null, .null] j := by
  intro j hj
  rcases (show j = 0 ∨ j = 1 ∨ j = 2 ∨ j = 3 ∨ j = 4 ∨ j = 5 ∨ j = 6 ∨ j = 7 ∨ j = 8 by omega) with rfl | rfl | rfl | rfl | rfl | rfl | rfl | rfl | rfl <;> rfl
theorem dfX5 : ∀ j, j < 7 → defaultValue (tyX5 j) = vp_V [.null, .null, .null, .null, .int 0, .null, .null] j := by
  intro j hj
  rcases (show j = 0 ∨ j = 1 ∨ j = 2 ∨ j = 3 ∨ j = 4 ∨ j = 5 ∨ j = 6 by omega) with rfl | rfl | rfl | rfl | rfl | rfl | rfl <;> rfl
theorem dfX6 : ∀ j, j < 10 → defaultValue (tyX6 j) = vp_V [.int 0, .int 0, .int 0, .int 0, .int 0, .int 0, .int 0, .null, .null, .null] j := by
  intro j hj
  rcases (show j = 0 ∨ j = 1 ∨ j = 2 ∨ j = 3 ∨ j = 4 ∨ j = 5 ∨ j = 6 ∨ j = 7 ∨ j = 8 ∨ j = 9 by omega) with rfl | rfl | rfl | rfl | rfl | rfl | rfl | rfl | rfl | rfl <;> rfl
theorem dfX7 : ∀ j, j < 7 → defaultValue (tyX7 j) = vp_V [.null, .null, .null, .null, .null, .null, .null] j := by
  intro j hj
  rcases (show j = 0 ∨ j = 1 ∨ j = 2 ∨ j = 3 ∨ j = 4 ∨ j = 5 ∨ j = 6 by omega) with rfl | rfl | rfl | rfl | rfl | rfl | rfl <;> rfl
theorem dfX8 : ∀ j, j < 22 → defaultValue (tyX8 j) = vp_V [.int 0, .null, .null, .int 0, .int 0, .int 0, .null, .null, .int 0, .int 0, .int 0, .int 0, .int 0, .long 0, .long 0, .long 0, .long 0, .int 0, .null, .null, .null, .null] j := by
  intro j hj
  rcases (show j = 0 ∨ j = 1 ∨ j = 2 ∨ j = 3 ∨ j = 4 ∨ j = 5 ∨ j = 6 ∨ j = 7 ∨ j = 8 ∨ j = 9 ∨ j = 10 ∨ j = 11 ∨ j = 12 ∨ j = 13 ∨ j = 14 ∨ j = 15 ∨ j = 16 ∨ j = 17 ∨ j = 18 ∨ j = 19 ∨ j = 20 ∨ j = 21 by omega) with rfl | rfl | rfl | rfl | rfl | rfl | rfl | rfl | rfl | rfl | rfl | rfl | rfl | rfl | rfl | rfl | rfl | rfl | rfl | rfl | rfl | rfl <;> rfl
abbrev rmX2_init (n : Nat) : Room := { frames := 1, cells := 1, slots := n, locals := 29 }
theorem yd_X2_init : yX2_init.cls ≠ "java/lang/invoke/MethodHandle" ∧ yX2_init.cls ≠ "java/lang/invoke/VarHandle" ∧ (parseMethodDescriptor yX2_init.desc).map (fun d => d.parameters.length) = some 1 := by decide +kernel
set_option maxRecDepth 100000 in
set_option maxHeartbeats 4000000 in
theorem kiX2 {l : Launch} {dC : Nat → ClassId} {dI : Nat → Nat → Nat} {cI : ClassId × ClassId} {a sz : Nat} {v : Int32} {n : Nat} (hv : ¬ (if v < 0 then 0 else v) < 0) (hn : (if v < 0 then 0 else v).toNatClampNeg = n) (h4 : n * 4 ≤ 536870912) : zCk l dC dI cI yX2_init (Cond.code yX2_init cX2_init 2 none :: zU) (rmX2_init n) [.ref a, .int v] a 2 [.null] sz (kRow cI n) zZ 1 n := by
  refine zMetK (lv := [(0, .ref a), (1, .int v)]) (by decide) rfl (Nat.le_of_ble_eq_true rfl) rfl ?_
  intro p e s m args below meth c Q A hx hb hml hr hU hown hlocks hin hK hM hP hD hS hA hAe ls hl hQ
  replace hown : s.vm.findClass RX2 = some m.cls := hown
  refine lv_aload_n hx hb dX2_init_0 rfl (lv_at hl 0 rfl) ?_
  refine z_kobj hx hb hown hml hl.1 hU uL_X2_1 dX2_init_1 (Nat.le_of_ble_eq_true rfl) (Nat.le_of_ble_eq_true rfl) ?_
  refine lv_aload_n hx hb dX2_init_4 rfl (lv_at hl 0 rfl) ?_
  refine lv_iload_n hx hb dX2_init_5 rfl (lv_at hl 1 rfl) ?_
  refine lv_iconst (v := 0) hx hb dX2_init_6 rfl ?_
  refine va_mmax hx hb (hml.trans hl.1.symm) hown (hU _ uL_X2_7) (hU _ uT_J9_max_7cf53) (hU _ uN_J9) (hU _ uC_J9_max_7cf53) (Nat.le_of_ble_eq_true rfl) (Nat.le_of_ble_eq_true rfl) (Nat.zero_le _) (Nat.zero_le _) dX2_init_7 ?_
  refine z_karr hx hb hU hK hP hD hS hA (n := n) hv hn h4 (Nat.le_refl 1) (by show 0 + n ≤ n; omega) dX2_init_10 (fun a1 H hP hD hS => ?_)
  refine va_putF (D := (dC, dI)) (ci := 2) (v := .ref a1) (C := RX2) (T := TX2) (N := 1) hx hb hU uU_X2 tyX2 tyX2_ok nmX2 hown hK hP hD hS 0 rfl rfl 0 (by decide) (hU _ uF_X2_13) (fun _ h9 => h9) rfl hin rfl (tyX2_ok 0 (by decide)) rfl rfl (Nat.le_of_ble_eq_true rfl) dX2_init_12 (fun H locs hP hD hS => ?_)
  refine W.widen (k := 1) (n := n) (Nat.le_of_ble_eq_true rfl) (by omega) ?_
  exact z_kret hx hb hlocks hP hD hS hQ hAe hr dX2_init_15 (fun k => if k = 0 then a else a1) rfl rfl
abbrev rmX1_init : Room := { frames := 1, cells := 0, slots := 0, locals := 29 }
theorem yd_X1_init : yX1_init.cls ≠ "java/lang/invoke/MethodHandle" ∧ yX1_init.cls ≠ "java/lang/invoke/VarHandle" ∧ (parseMethodDescriptor yX1_init.desc).map (fun d => d.parameters.length) = some 0 := by decide +kernel
set_option maxRecDepth 100000 in
set_option maxHeartbeats 4000000 in
theorem kiX1 {l : Launch} {dC : Nat → ClassId} {dI : Nat → Nat → Nat} {cI : ClassId × ClassId} {a sz : Nat} : zCk l dC dI cI yX1_init (Cond.code yX1_init cX1_init 1 none :: zU) rmX1_init [.ref a] a 1 [.long 0, .long 0] sz (kRat cI) zZ 0 0 := by
  refine zMetK (lv := [(0, .ref a)]) (by decide) rfl (Nat.le_of_ble_eq_true rfl) rfl ?_
  intro p e s m args below meth c Q A hx hb hml hr hU hown hlocks hin hK hM hP hD hS hA hAe ls hl hQ
  replace hown : s.vm.findClass RX1 = some m.cls := hown
  refine lv_aload_n hx hb dX1_init_0 rfl (lv_at hl 0 rfl) ?_
  refine z_kobj hx hb hown hml hl.1 hU uL_X1_1 dX1_init_1 (Nat.le_of_ble_eq_true rfl) (Nat.le_of_ble_eq_true rfl) ?_
  exact z_kret hx hb hlocks hP hD hS hQ hAe hr dX1_init_4 (fun _ => a) rfl rfl
abbrev rmX6_init : Room := { frames := 2, cells := 6, slots := 35, locals := 50 }
theorem yd_X6_init : yX6_init.cls ≠ "java/lang/invoke/MethodHandle" ∧ yX6_init.cls ≠ "java/lang/invoke/VarHandle" ∧ (parseMethodDescriptor yX6_init.desc).map (fun d => d.parameters.length) = some 0 := by decide +kernel
set_option maxRecDepth 100000 in
set_option maxHeartbeats 4000000 in
theorem kiX6 {l : Launch} {dC : Nat → ClassId} {dI : Nat → Nat → Nat} {cI : ClassId × ClassId} {a sz : Nat} : zCk l dC dI cI yX6_init (Cond.code yX6_init cX6_init 1 none :: zU) rmX6_init [.ref a] a 6 [.int 0, .int 0, .int 0, .int 0, .int 0, .int 0, .int 0, .null, .null, .null] sz (kWk cI) zZ 6 35 := by
  refine zMetK (lv := [(0, .ref a)]) (by decide) rfl (Nat.le_of_ble_eq_true rfl) rfl ?_
  intro p e s m args below meth c Q A hx hb hml hr hU hown hlocks hin hK hM hP hD hS hA hAe ls hl hQ
  replace hown : s.vm.findClass RX6 = some m.cls := hown
  refine lv_aload_n hx hb dX6_init_0 rfl (lv_at hl 0 rfl) ?_
  refine z_kobj hx hb hown hml hl.1 hU uL_X6_3 dX6_init_1 (Nat.le_of_ble_eq_true rfl) (Nat.le_of_ble_eq_true rfl) ?_
  refine lv_aload_n hx hb dX6_init_4 rfl (lv_at hl 0 rfl) ?_
  refine va_new (ci := 2) (fs := [.null]) (C := RX2) (T := TX2) (N := 1) hx hb hU uU_X2 tyX2 tyX2_ok hown (hU _ uG_X6_9) (hU _ uM_X2) (hU _ uN_X2) hK hP hD hS hA rfl dfX2 (Nat.le_of_ble_eq_true rfl) (Nat.le_of_ble_eq_true rfl) dX6_init_5 (fun q1 H hP hD hS => ?_)
  refine W.widen (k := 1) (n := 1) (Nat.le_of_ble_eq_true rfl) (Nat.le_of_ble_eq_true rfl) ?_
  refine lv_dup hx hb dX6_init_8 rfl ?_
  refine lv_bipush (v := 8) hx hb dX6_init_9 rfl ?_
  refine z_kcallI hx hb hml hown hU hK hM (W0 := [(a, .inr (6, [.int 0, .int 0, .int 0, .int 0, .int 0, .int 0, .int 0, .null, .null, .null]))]) (a1 := q1) (sh := (kRow cI 8)) (S1 := zZ) hP hD hS hA 1 uL_X6_11 uN_X2 uI_X2_init uC_X2_init rfl yd_X2_init rfl rfl ⟨(Nat.le_of_ble_eq_true rfl), (Nat.le_of_ble_eq_true rfl)⟩ (As := [.int 8]) (fun sz => kiX2 (v := 8) (n := 8) (by decide) (by decide) (by decide)) rfl hl.1 rfl (Nat.le_of_ble_eq_true rfl) dX6_init_11 ⟨(Nat.le_of_ble_eq_true rfl), (Nat.le_of_ble_eq_true rfl)⟩ (fun x2 H locs hP hD hS => ?_)
  refine W.widen (k := 2) (n := 9) (Nat.le_of_ble_eq_true rfl) (Nat.le_of_ble_eq_true rfl) ?_
  have hP : va_P (dC, dI) vwCl ((a, .inr (6, [.int 0, .int 0, .int 0, .int 0, .int 0, .int 0, .int 0, .null, .null, .null])) :: zWd cI (kRow cI 8) (zx q1 x2) zZ) H := hP
  have hD : va_D A ((a, .inr (6, [.int 0, .int 0, .int 0, .int 0, .int 0, .int 0, .int 0, .null, .null, .null])) :: zWd cI (kRow cI 8) (zx q1 x2) zZ) := hD
  refine va_putF (D := (dC, dI)) (ci := 6) (v := .ref q1) (C := RX6) (T := TX6) (N := 10) hx hb hU uU_X6 tyX6 tyX6_ok nmX6 hown hK hP hD hS 0 rfl rfl 7 (by decide) (hU _ uF_X6_14) (fun _ h9 => h9) rfl hin rfl (tyX6_ok 7 (by decide)) rfl rfl (Nat.le_of_ble_eq_true rfl) dX6_init_14 (fun H locs hP hD hS => ?_)
  have hP : va_P (dC, dI) vwCl ((a, .inr (6, [.int 0, .int 0, .int 0, .int 0, .int 0, .int 0, .int 0, .ref q1, .null, .null])) :: zWd cI (kRow cI 8) (zx q1 x2) zZ) H := hP
  have hD : va_D A ((a, .inr (6, [.int 0, .int 0, .int 0, .int 0, .int 0, .int 0, .int 0, .ref q1, .null, .null])) :: zWd cI (kRow cI 8) (zx q1 x2) zZ) := hD
  refine lv_aload_n hx hb dX6_init_17 rfl (lv_at hl 0 rfl) ?_
  refine va_new (ci := 2) (fs := [.null]) (C := RX2) (T := TX2) (N := 1) hx hb hU uU_X2 tyX2 tyX2_ok hown (hU _ uG_X6_9) (hU _ uM_X2) (hU _ uN_X2) hK hP hD hS hA rfl dfX2 (Nat.le_of_ble_eq_true rfl) (Nat.le_of_ble_eq_true rfl) dX6_init_18 (fun q3 H hP hD hS => ?_)
  refine W.widen (k := 3) (n := 10) (Nat.le_of_ble_eq_true rfl) (Nat.le_of_ble_eq_true rfl) ?_
  refine lv_dup hx hb dX6_init_21 rfl ?_
  refine lv_bipush (v := 8) hx hb dX6_init_22 rfl ?_
  refine z_kcallI hx hb hml hown hU hK hM (W0 := (a, .inr (6, [.int 0, .int 0, .int 0, .int 0, .int 0, .int 0, .int 0, .ref q1, .null, .null])) :: zWd cI (kRow cI 8) (zx q1 x2) zZ) (a1 := q3) (sh := (kRow cI 8)) (S1 := zZ) hP hD hS hA 1 uL_X6_11 uN_X2 uI_X2_init uC_X2_init rfl yd_X2_init rfl rfl ⟨(Nat.le_of_ble_eq_true rfl), (Nat.le_of_ble_eq_true rfl)⟩ (As := [.int 8]) (fun sz => kiX2 (v := 8) (n := 8) (by decide) (by decide) (by decide)) rfl hl.1 rfl (Nat.le_of_ble_eq_true rfl) dX6_init_24 ⟨(Nat.le_of_ble_eq_true rfl), (Nat.le_of_ble_eq_true rfl)⟩ (fun x4 H locs hP hD hS => ?_)
  refine W.widen (k := 4) (n := 18) (Nat.le_of_ble_eq_true rfl) (Nat.le_of_ble_eq_true rfl) ?_
  have hP : va_P (dC, dI) vwCl ((a, .inr (6, [.int 0, .int 0, .int 0, .int 0, .int 0, .int 0, .int 0, .ref q1, .null, .null])) :: (zWd cI (kRow cI 8) (zx q1 x2) zZ ++ zWd cI (kRow cI 8) (zx q3 x4) zZ)) H := hP
  have hD : va_D A ((a, .inr (6, [.int 0, .int 0, .int 0, .int 0, .int 0, .int 0, .int 0, .ref q1, .null, .null])) :: (zWd cI (kRow cI 8) (zx q1 x2) zZ ++ zWd cI (kRow cI 8) (zx q3 x4) zZ)) := hD
  refine va_putF (D := (dC, dI)) (ci := 6) (v := .ref q3) (C := RX6) (T := TX6) (N := 10) hx hb hU uU_X6 tyX6 tyX6_ok nmX6 hown hK hP hD hS 0 rfl rfl 8 (by decide) (hU _ uF_X6_20) (fun _ h9 => h9) rfl hin rfl (tyX6_ok 8 (by decide)) rfl rfl (Nat.le_of_ble_eq_true rfl) dX6_init_27 (fun H locs hP hD hS => ?_)
  have hP : va_P (dC, dI) vwCl ((a, .inr (6, [.int 0, .int 0, .int 0, .int 0, .int 0, .int 0, .int 0, .ref q1, .ref q3, .null])) :: (zWd cI (kRow cI 8) (zx q1 x2) zZ ++ zWd cI (kRow cI 8) (zx q3 x4) zZ)) H := hP
  have hD : va_D A ((a, .inr (6, [.int 0, .int 0, .int 0, .int 0, .int 0, .int 0, .int 0, .ref q1, .ref q3, .null])) :: (zWd cI (kRow cI 8) (zx q1 x2) zZ ++ zWd cI (kRow cI 8) (zx q3 x4) zZ)) := hD
  refine lv_aload_n hx hb dX6_init_30 rfl (lv_at hl 0 rfl) ?_
  refine va_new (ci := 2) (fs := [.null]) (C := RX2) (T := TX2) (N := 1) hx hb hU uU_X2 tyX2 tyX2_ok hown (hU _ uG_X6_9) (hU _ uM_X2) (hU _ uN_X2) hK hP hD hS hA rfl dfX2 (Nat.le_of_ble_eq_true rfl) (Nat.le_of_ble_eq_true rfl) dX6_init_31 (fun q5 H hP hD hS => ?_)
  refine W.widen (k := 5) (n := 19) (Nat.le_of_ble_eq_true rfl) (Nat.le_of_ble_eq_true rfl) ?_
  refine lv_dup hx hb dX6_init_34 rfl ?_
  refine lv_bipush (v := 16) hx hb dX6_init_35 rfl ?_
  refine z_kcallI hx hb hml hown hU hK hM (W0 := (a, .inr (6, [.int 0, .int 0, .int 0, .int 0, .int 0, .int 0, .int 0, .ref q1, .ref q3, .null])) :: (zWd cI (kRow cI 8) (zx q1 x2) zZ ++ zWd cI (kRow cI 8) (zx q3 x4) zZ)) (a1 := q5) (sh := (kRow cI 16)) (S1 := zZ) hP hD hS hA 1 uL_X6_11 uN_X2 uI_X2_init uC_X2_init rfl yd_X2_init rfl rfl ⟨(Nat.le_of_ble_eq_true rfl), (Nat.le_of_ble_eq_true rfl)⟩ (As := [.int 16]) (fun sz => kiX2 (v := 16) (n := 16) (by decide) (by decide) (by decide)) rfl hl.1 rfl (Nat.le_of_ble_eq_true rfl) dX6_init_37 ⟨(Nat.le_of_ble_eq_true rfl), (Nat.le_of_ble_eq_true rfl)⟩ (fun x6 H locs hP hD hS => ?_)
  refine W.widen (k := 6) (n := 35) (Nat.le_of_ble_eq_true rfl) (Nat.le_of_ble_eq_true rfl) ?_
  have hP : va_P (dC, dI) vwCl ((a, .inr (6, [.int 0, .int 0, .int 0, .int 0, .int 0, .int 0, .int 0, .ref q1, .ref q3, .null])) :: ((zWd cI (kRow cI 8) (zx q1 x2) zZ ++ zWd cI (kRow cI 8) (zx q3 x4) zZ) ++ zWd cI (kRow cI 16) (zx q5 x6) zZ)) H := hP
  have hD : va_D A ((a, .inr (6, [.int 0, .int 0, .int 0, .int 0, .int 0, .int 0, .int 0, .ref q1, .ref q3, .null])) :: ((zWd cI (kRow cI 8) (zx q1 x2) zZ ++ zWd cI (kRow cI 8) (zx q3 x4) zZ) ++ zWd cI (kRow cI 16) (zx q5 x6) zZ)) := hD
  refine va_putF (D := (dC, dI)) (ci := 6) (v := .ref q5) (C := RX6) (T := TX6) (N := 10) hx hb hU uU_X6 tyX6 tyX6_ok nmX6 hown hK hP hD hS 0 rfl rfl 9 (by decide) (hU _ uF_X6_23) (fun _ h9 => h9) rfl hin rfl (tyX6_ok 9 (by decide)) rfl rfl (Nat.le_of_ble_eq_true rfl) dX6_init_40 (fun H locs hP hD hS => ?_)
  have hP : va_P (dC, dI) vwCl ((a, .inr (6, [.int 0, .int 0, .int 0, .int 0, .int 0, .int 0, .int 0, .ref q1, .ref q3, .ref q5])) :: ((zWd cI (kRow cI 8) (zx q1 x2) zZ ++ zWd cI (kRow cI 8) (zx q3 x4) zZ) ++ zWd cI (kRow cI 16) (zx q5 x6) zZ)) H := hP
  have hD : va_D A ((a, .inr (6, [.int 0, .int 0, .int 0, .int 0, .int 0, .int 0, .int 0, .ref q1, .ref q3, .ref q5])) :: ((zWd cI (kRow cI 8) (zx q1 x2) zZ ++ zWd cI (kRow cI 8) (zx q3 x4) zZ) ++ zWd cI (kRow cI 16) (zx q5 x6) zZ)) := hD
  exact z_kret hx hb hlocks hP hD hS hQ hAe hr dX6_init_43 (fun k => if k = 0 then a else if k < 3 then (zx q1 x2) (k - 1) else if k < 5 then (zx q3 x4) (k - 3) else (zx q5 x6) (k - 5)) rfl rfl
abbrev rmX4_init : Room := { frames := 2, cells := 11, slots := 42, locals := 50 }
theorem yd_X4_init : yX4_init.cls ≠ "java/lang/invoke/MethodHandle" ∧ yX4_init.cls ≠ "java/lang/invoke/VarHandle" ∧ (parseMethodDescriptor yX4_init.desc).map (fun d => d.parameters.length) = some 0 := by decide +kernel
set_option maxRecDepth 100000 in
set_option maxHeartbeats 4000000 in
theorem kiX4 {l : Launch} {dC : Nat → ClassId} {dI : Nat → Nat → Nat} {cI : ClassId × ClassId} {a sz : Nat} : zCk l dC dI cI yX4_init (Cond.code yX4_init cX4_init 1 none :: zU) rmX4_init [.ref a] a 4 [.null, .null, .null, .null, .int 0, .int 0, .null, .null, .null] sz (kSpan cI) zZ 11 42 := by
  refine zMetK (lv := [(0, .ref a)]) (by decide) rfl (Nat.le_of_ble_eq_true rfl) rfl ?_
  intro p e s m args below meth c Q A hx hb hml hr hU hown hlocks hin hK hM hP hD hS hA hAe ls hl hQ
  replace hown : s.vm.findClass RX4 = some m.cls := hown
  refine lv_aload_n hx hb dX4_init_0 rfl (lv_at hl 0 rfl) ?_
  refine z_kobj hx hb hown hml hl.1 hU uL_X4_3 dX4_init_1 (Nat.le_of_ble_eq_true rfl) (Nat.le_of_ble_eq_true rfl) ?_
  refine lv_aload_n hx hb dX4_init_4 rfl (lv_at hl 0 rfl) ?_
  refine va_new (ci := 2) (fs := [.null]) (C := RX2) (T := TX2) (N := 1) hx hb hU uU_X2 tyX2 tyX2_ok hown (hU _ uG_X4_9) (hU _ uM_X2) (hU _ uN_X2) hK hP hD hS hA rfl dfX2 (Nat.le_of_ble_eq_true rfl) (Nat.le_of_ble_eq_true rfl) dX4_init_5 (fun q1 H hP hD hS => ?_)
  refine W.widen (k := 1) (n := 1) (Nat.le_of_ble_eq_true rfl) (Nat.le_of_ble_eq_true rfl) ?_
  refine lv_dup hx hb dX4_init_8 rfl ?_
  refine lv_bipush (v := 8) hx hb dX4_init_9 rfl ?_
  refine z_kcallI hx hb hml hown hU hK hM (W0 := [(a, .inr (4, [.null, .null, .null, .null, .int 0, .int 0, .null, .null, .null]))]) (a1 := q1) (sh := (kRow cI 8)) (S1 := zZ) hP hD hS hA 1 uL_X4_11 uN_X2 uI_X2_init uC_X2_init rfl yd_X2_init rfl rfl ⟨(Nat.le_of_ble_eq_true rfl), (Nat.le_of_ble_eq_true rfl)⟩ (As := [.int 8]) (fun sz => kiX2 (v := 8) (n := 8) (by decide) (by decide) (by decide)) rfl hl.1 rfl (Nat.le_of_ble_eq_true rfl) dX4_init_11 ⟨(Nat.le_of_ble_eq_true rfl), (Nat.le_of_ble_eq_true rfl)⟩ (fun x2 H locs hP hD hS => ?_)
  refine W.widen (k := 2) (n := 9) (Nat.le_of_ble_eq_true rfl) (Nat.le_of_ble_eq_true rfl) ?_
  have hP : va_P (dC, dI) vwCl ((a, .inr (4, [.null, .null, .null, .null, .int 0, .int 0, .null, .null, .null])) :: zWd cI (kRow cI 8) (zx q1 x2) zZ) H := hP
  have hD : va_D A ((a, .inr (4, [.null, .null, .null, .null, .int 0, .int 0, .null, .null, .null])) :: zWd cI (kRow cI 8) (zx q1 x2) zZ) := hD
  refine va_putF (D := (dC, dI)) (ci := 4) (v := .ref q1) (C := RX4) (T := TX4) (N := 9) hx hb hU uU_X4 tyX4 tyX4_ok nmX4 hown hK hP hD hS 0 rfl rfl 0 (by decide) (hU _ uF_X4_14) (fun _ h9 => h9) rfl hin rfl (tyX4_ok 0 (by decide)) rfl rfl (Nat.le_of_ble_eq_true rfl) dX4_init_14 (fun H locs hP hD hS => ?_)
  have hP : va_P (dC, dI) vwCl ((a, .inr (4, [.ref q1, .null, .null, .null, .int 0, .int 0, .null, .null, .null])) :: zWd cI (kRow cI 8) (zx q1 x2) zZ) H := hP
  have hD : va_D A ((a, .inr (4, [.ref q1, .null, .null, .null, .int 0, .int 0, .null, .null, .null])) :: zWd cI (kRow cI 8) (zx q1 x2) zZ) := hD
  refine lv_aload_n hx hb dX4_init_17 rfl (lv_at hl 0 rfl) ?_
  refine va_new (ci := 2) (fs := [.null]) (C := RX2) (T := TX2) (N := 1) hx hb hU uU_X2 tyX2 tyX2_ok hown (hU _ uG_X4_9) (hU _ uM_X2) (hU _ uN_X2) hK hP hD hS hA rfl dfX2 (Nat.le_of_ble_eq_true rfl) (Nat.le_of_ble_eq_true rfl) dX4_init_18 (fun q3 H hP hD hS => ?_)
  refine W.widen (k := 3) (n := 10) (Nat.le_of_ble_eq_true rfl) (Nat.le_of_ble_eq_true rfl) ?_
  refine lv_dup hx hb dX4_init_21 rfl ?_
  refine lv_bipush (v := 8) hx hb dX4_init_22 rfl ?_
  refine z_kcallI hx hb hml hown hU hK hM (W0 := (a, .inr (4, [.ref q1, .null, .null, .null, .int 0, .int 0, .null, .null, .null])) :: zWd cI (kRow cI 8) (zx q1 x2) zZ) (a1 := q3) (sh := (kRow cI 8)) (S1 := zZ) hP hD hS hA 1 uL_X4_11 uN_X2 uI_X2_init uC_X2_init rfl yd_X2_init rfl rfl ⟨(Nat.le_of_ble_eq_true rfl), (Nat.le_of_ble_eq_true rfl)⟩ (As := [.int 8]) (fun sz => kiX2 (v := 8) (n := 8) (by decide) (by decide) (by decide)) rfl hl.1 rfl (Nat.le_of_ble_eq_true rfl) dX4_init_24 ⟨(Nat.le_of_ble_eq_true rfl), (Nat.le_of_ble_eq_true rfl)⟩ (fun x4 H locs hP hD hS => ?_)
  refine W.widen (k := 4) (n := 18) (Nat.le_of_ble_eq_true rfl) (Nat.le_of_ble_eq_true rfl) ?_
  have hP : va_P (dC, dI) vwCl ((a, .inr (4, [.ref q1, .null, .null, .null, .int 0, .int 0, .null, .null, .null])) :: (zWd cI (kRow cI 8) (zx q1 x2) zZ ++ zWd cI (kRow cI 8) (zx q3 x4) zZ)) H := hP
  have hD : va_D A ((a, .inr (4, [.ref q1, .null, .null, .null, .int 0, .int 0, .null, .null, .null])) :: (zWd cI (kRow cI 8) (zx q1 x2) zZ ++ zWd cI (kRow cI 8) (zx q3 x4) zZ)) := hD
  refine va_putF (D := (dC, dI)) (ci := 4) (v := .ref q3) (C := RX4) (T := TX4) (N := 9) hx hb hU uU_X4 tyX4 tyX4_ok nmX4 hown hK hP hD hS 0 rfl rfl 1 (by decide) (hU _ uF_X4_20) (fun _ h9 => h9) rfl hin rfl (tyX4_ok 1 (by decide)) rfl rfl (Nat.le_of_ble_eq_true rfl) dX4_init_27 (fun H locs hP hD hS => ?_)
  have hP : va_P (dC, dI) vwCl ((a, .inr (4, [.ref q1, .ref q3, .null, .null, .int 0, .int 0, .null, .null, .null])) :: (zWd cI (kRow cI 8) (zx q1 x2) zZ ++ zWd cI (kRow cI 8) (zx q3 x4) zZ)) H := hP
  have hD : va_D A ((a, .inr (4, [.ref q1, .ref q3, .null, .null, .int 0, .int 0, .null, .null, .null])) :: (zWd cI (kRow cI 8) (zx q1 x2) zZ ++ zWd cI (kRow cI 8) (zx q3 x4) zZ)) := hD
  refine lv_aload_n hx hb dX4_init_30 rfl (lv_at hl 0 rfl) ?_
  refine va_new (ci := 2) (fs := [.null]) (C := RX2) (T := TX2) (N := 1) hx hb hU uU_X2 tyX2 tyX2_ok hown (hU _ uG_X4_9) (hU _ uM_X2) (hU _ uN_X2) hK hP hD hS hA rfl dfX2 (Nat.le_of_ble_eq_true rfl) (Nat.le_of_ble_eq_true rfl) dX4_init_31 (fun q5 H hP hD hS => ?_)
  refine W.widen (k := 5) (n := 19) (Nat.le_of_ble_eq_true rfl) (Nat.le_of_ble_eq_true rfl) ?_
  refine lv_dup hx hb dX4_init_34 rfl ?_
  refine lv_bipush (v := 8) hx hb dX4_init_35 rfl ?_
  refine z_kcallI hx hb hml hown hU hK hM (W0 := (a, .inr (4, [.ref q1, .ref q3, .null, .null, .int 0, .int 0, .null, .null, .null])) :: (zWd cI (kRow cI 8) (zx q1 x2) zZ ++ zWd cI (kRow cI 8) (zx q3 x4) zZ)) (a1 := q5) (sh := (kRow cI 8)) (S1 := zZ) hP hD hS hA 1 uL_X4_11 uN_X2 uI_X2_init uC_X2_init rfl yd_X2_init rfl rfl ⟨(Nat.le_of_ble_eq_true rfl), (Nat.le_of_ble_eq_true rfl)⟩ (As := [.int 8]) (fun sz => kiX2 (v := 8) (n := 8) (by decide) (by decide) (by decide)) rfl hl.1 rfl (Nat.le_of_ble_eq_true rfl) dX4_init_37 ⟨(Nat.le_of_ble_eq_true rfl), (Nat.le_of_ble_eq_true rfl)⟩ (fun x6 H locs hP hD hS => ?_)
  refine W.widen (k := 6) (n := 27) (Nat.le_of_ble_eq_true rfl) (Nat.le_of_ble_eq_true rfl) ?_
  have hP : va_P (dC, dI) vwCl ((a, .inr (4, [.ref q1, .ref q3, .null, .null, .int 0, .int 0, .null, .null, .null])) :: ((zWd cI (kRow cI 8) (zx q1 x2) zZ ++ zWd cI (kRow cI 8) (zx q3 x4) zZ) ++ zWd cI (kRow cI 8) (zx q5 x6) zZ)) H := hP
  have hD : va_D A ((a, .inr (4, [.ref q1, .ref q3, .null, .null, .int 0, .int 0, .null, .null, .null])) :: ((zWd cI (kRow cI 8) (zx q1 x2) zZ ++ zWd cI (kRow cI 8) (zx q3 x4) zZ) ++ zWd cI (kRow cI 8) (zx q5 x6) zZ)) := hD
  refine va_putF (D := (dC, dI)) (ci := 4) (v := .ref q5) (C := RX4) (T := TX4) (N := 9) hx hb hU uU_X4 tyX4 tyX4_ok nmX4 hown hK hP hD hS 0 rfl rfl 2 (by decide) (hU _ uF_X4_23) (fun _ h9 => h9) rfl hin rfl (tyX4_ok 2 (by decide)) rfl rfl (Nat.le_of_ble_eq_true rfl) dX4_init_40 (fun H locs hP hD hS => ?_)
  have hP : va_P (dC, dI) vwCl ((a, .inr (4, [.ref q1, .ref q3, .ref q5, .null, .int 0, .int 0, .null, .null, .null])) :: ((zWd cI (kRow cI 8) (zx q1 x2) zZ ++ zWd cI (kRow cI 8) (zx q3 x4) zZ) ++ zWd cI (kRow cI 8) (zx q5 x6) zZ)) H := hP
  have hD : va_D A ((a, .inr (4, [.ref q1, .ref q3, .ref q5, .null, .int 0, .int 0, .null, .null, .null])) :: ((zWd cI (kRow cI 8) (zx q1 x2) zZ ++ zWd cI (kRow cI 8) (zx q3 x4) zZ) ++ zWd cI (kRow cI 8) (zx q5 x6) zZ)) := hD
  refine lv_aload_n hx hb dX4_init_43 rfl (lv_at hl 0 rfl) ?_
  refine va_new (ci := 2) (fs := [.null]) (C := RX2) (T := TX2) (N := 1) hx hb hU uU_X2 tyX2 tyX2_ok hown (hU _ uG_X4_9) (hU _ uM_X2) (hU _ uN_X2) hK hP hD hS hA rfl dfX2 (Nat.le_of_ble_eq_true rfl) (Nat.le_of_ble_eq_true rfl) dX4_init_44 (fun q7 H hP hD hS => ?_)
  refine W.widen (k := 7) (n := 28) (Nat.le_of_ble_eq_true rfl) (Nat.le_of_ble_eq_true rfl) ?_
  refine lv_dup hx hb dX4_init_47 rfl ?_
  refine lv_bipush (v := 8) hx hb dX4_init_48 rfl ?_
  refine z_kcallI hx hb hml hown hU hK hM (W0 := (a, .inr (4, [.ref q1, .ref q3, .ref q5, .null, .int 0, .int 0, .null, .null, .null])) :: ((zWd cI (kRow cI 8) (zx q1 x2) zZ ++ zWd cI (kRow cI 8) (zx q3 x4) zZ) ++ zWd cI (kRow cI 8) (zx q5 x6) zZ)) (a1 := q7) (sh := (kRow cI 8)) (S1 := zZ) hP hD hS hA 1 uL_X4_11 uN_X2 uI_X2_init uC_X2_init rfl yd_X2_init rfl rfl ⟨(Nat.le_of_ble_eq_true rfl), (Nat.le_of_ble_eq_true rfl)⟩ (As := [.int 8]) (fun sz => kiX2 (v := 8) (n := 8) (by decide) (by decide) (by decide)) rfl hl.1 rfl (Nat.le_of_ble_eq_true rfl) dX4_init_50 ⟨(Nat.le_of_ble_eq_true rfl), (Nat.le_of_ble_eq_true rfl)⟩ (fun x8 H locs hP hD hS => ?_)
  refine W.widen (k := 8) (n := 36) (Nat.le_of_ble_eq_true rfl) (Nat.le_of_ble_eq_true rfl) ?_
  have hP : va_P (dC, dI) vwCl ((a, .inr (4, [.ref q1, .ref q3, .ref q5, .null, .int 0, .int 0, .null, .null, .null])) :: (((zWd cI (kRow cI 8) (zx q1 x2) zZ ++ zWd cI (kRow cI 8) (zx q3 x4) zZ) ++ zWd cI (kRow cI 8) (zx q5 x6) zZ) ++ zWd cI (kRow cI 8) (zx q7 x8) zZ)) H := hP
  have hD : va_D A ((a, .inr (4, [.ref q1, .ref q3, .ref q5, .null, .int 0, .int 0, .null, .null, .null])) :: (((zWd cI (kRow cI 8) (zx q1 x2) zZ ++ zWd cI (kRow cI 8) (zx q3 x4) zZ) ++ zWd cI (kRow cI 8) (zx q5 x6) zZ) ++ zWd cI (kRow cI 8) (zx q7 x8) zZ)) := hD
  refine va_putF (D := (dC, dI)) (ci := 4) (v := .ref q7) (C := RX4) (T := TX4) (N := 9) hx hb hU uU_X4 tyX4 tyX4_ok nmX4 hown hK hP hD hS 0 rfl rfl 3 (by decide) (hU _ uF_X4_26) (fun _ h9 => h9) rfl hin rfl (tyX4_ok 3 (by decide)) rfl rfl (Nat.le_of_ble_eq_true rfl) dX4_init_53 (fun H locs hP hD hS => ?_)
  have hP : va_P (dC, dI) vwCl ((a, .inr (4, [.ref q1, .ref q3, .ref q5, .ref q7, .int 0, .int 0, .null, .null, .null])) :: (((zWd cI (kRow cI 8) (zx q1 x2) zZ ++ zWd cI (kRow cI 8) (zx q3 x4) zZ) ++ zWd cI (kRow cI 8) (zx q5 x6) zZ) ++ zWd cI (kRow cI 8) (zx q7 x8) zZ)) H := hP
  have hD : va_D A ((a, .inr (4, [.ref q1, .ref q3, .ref q5, .ref q7, .int 0, .int 0, .null, .null, .null])) :: (((zWd cI (kRow cI 8) (zx q1 x2) zZ ++ zWd cI (kRow cI 8) (zx q3 x4) zZ) ++ zWd cI (kRow cI 8) (zx q5 x6) zZ) ++ zWd cI (kRow cI 8) (zx q7 x8) zZ)) := hD
  refine lv_aload_n hx hb dX4_init_56 rfl (lv_at hl 0 rfl) ?_
  refine va_new (ci := 1) (fs := [.long 0, .long 0]) (C := RX1) (T := TX1) (N := 2) hx hb hU uU_X1 tyX1 tyX1_ok hown (hU _ uG_X4_29) (hU _ uM_X1) (hU _ uN_X1) hK hP hD hS hA rfl dfX1 (Nat.le_of_ble_eq_true rfl) (Nat.le_of_ble_eq_true rfl) dX4_init_57 (fun q9 H hP hD hS => ?_)
  refine W.widen (k := 9) (n := 38) (Nat.le_of_ble_eq_true rfl) (Nat.le_of_ble_eq_true rfl) ?_
  refine lv_dup hx hb dX4_init_60 rfl ?_
  refine z_kcallN hx hb hml hown hU hK hM (W0 := (a, .inr (4, [.ref q1, .ref q3, .ref q5, .ref q7, .int 0, .int 0, .null, .null, .null])) :: (((zWd cI (kRow cI 8) (zx q1 x2) zZ ++ zWd cI (kRow cI 8) (zx q3 x4) zZ) ++ zWd cI (kRow cI 8) (zx q5 x6) zZ) ++ zWd cI (kRow cI 8) (zx q7 x8) zZ)) (a1 := q9) (sh := (kRat cI)) (S1 := zZ) hP hD hS hA 0 hM.2.2.2.2.2.2.2.1 uN_X1 uI_X1_init uC_X1_init rfl yd_X1_init rfl rfl ⟨(Nat.le_of_ble_eq_true rfl), (Nat.le_of_ble_eq_true rfl)⟩ (As := []) (fun sz => kiX1) rfl hl.1 rfl (Nat.le_of_ble_eq_true rfl) dX4_init_61 ⟨(Nat.le_of_ble_eq_true rfl), (Nat.le_of_ble_eq_true rfl)⟩ (fun x10 H locs hP hD hS => ?_)
  refine W.widen (k := 9) (n := 38) (Nat.le_of_ble_eq_true rfl) (Nat.le_of_ble_eq_true rfl) ?_
  have hP : va_P (dC, dI) vwCl ((a, .inr (4, [.ref q1, .ref q3, .ref q5, .ref q7, .int 0, .int 0, .null, .null, .null])) :: ((((zWd cI (kRow cI 8) (zx q1 x2) zZ ++ zWd cI (kRow cI 8) (zx q3 x4) zZ) ++ zWd cI (kRow cI 8) (zx q5 x6) zZ) ++ zWd cI (kRow cI 8) (zx q7 x8) zZ) ++ zWd cI (kRat cI) (zx q9 x10) zZ)) H := hP
  have hD : va_D A ((a, .inr (4, [.ref q1, .ref q3, .ref q5, .ref q7, .int 0, .int 0, .null, .null, .null])) :: ((((zWd cI (kRow cI 8) (zx q1 x2) zZ ++ zWd cI (kRow cI 8) (zx q3 x4) zZ) ++ zWd cI (kRow cI 8) (zx q5 x6) zZ) ++ zWd cI (kRow cI 8) (zx q7 x8) zZ) ++ zWd cI (kRat cI) (zx q9 x10) zZ)) := hD
  refine va_putF (D := (dC, dI)) (ci := 4) (v := .ref q9) (C := RX4) (T := TX4) (N := 9) hx hb hU uU_X4 tyX4 tyX4_ok nmX4 hown hK hP hD hS 0 rfl rfl 6 (by decide) (hU _ uF_X4_32) (fun _ h9 => h9) rfl hin rfl (tyX4_ok 6 (by decide)) rfl rfl (Nat.le_of_ble_eq_true rfl) dX4_init_64 (fun H locs hP hD hS => ?_)
  have hP : va_P (dC, dI) vwCl ((a, .inr (4, [.ref q1, .ref q3, .ref q5, .ref q7, .int 0, .int 0, .ref q9, .null, .null])) :: ((((zWd cI (kRow cI 8) (zx q1 x2) zZ ++ zWd cI (kRow cI 8) (zx q3 x4) zZ) ++ zWd cI (kRow cI 8) (zx q5 x6) zZ) ++ zWd cI (kRow cI 8) (zx q7 x8) zZ) ++ zWd cI (kRat cI) (zx q9 x10) zZ)) H := hP
  have hD : va_D A ((a, .inr (4, [.ref q1, .ref q3, .ref q5, .ref q7, .int 0, .int 0, .ref q9, .null, .null])) :: ((((zWd cI (kRow cI 8) (zx q1 x2) zZ ++ zWd cI (kRow cI 8) (zx q3 x4) zZ) ++ zWd cI (kRow cI 8) (zx q5 x6) zZ) ++ zWd cI (kRow cI 8) (zx q7 x8) zZ) ++ zWd cI (kRat cI) (zx q9 x10) zZ)) := hD
  refine lv_aload_n hx hb dX4_init_67 rfl (lv_at hl 0 rfl) ?_
  refine va_new (ci := 1) (fs := [.long 0, .long 0]) (C := RX1) (T := TX1) (N := 2) hx hb hU uU_X1 tyX1 tyX1_ok hown (hU _ uG_X4_29) (hU _ uM_X1) (hU _ uN_X1) hK hP hD hS hA rfl dfX1 (Nat.le_of_ble_eq_true rfl) (Nat.le_of_ble_eq_true rfl) dX4_init_68 (fun q11 H hP hD hS => ?_)
  refine W.widen (k := 10) (n := 40) (Nat.le_of_ble_eq_true rfl) (Nat.le_of_ble_eq_true rfl) ?_
  refine lv_dup hx hb dX4_init_71 rfl ?_
  refine z_kcallN hx hb hml hown hU hK hM (W0 := (a, .inr (4, [.ref q1, .ref q3, .ref q5, .ref q7, .int 0, .int 0, .ref q9, .null, .null])) :: ((((zWd cI (kRow cI 8) (zx q1 x2) zZ ++ zWd cI (kRow cI 8) (zx q3 x4) zZ) ++ zWd cI (kRow cI 8) (zx q5 x6) zZ) ++ zWd cI (kRow cI 8) (zx q7 x8) zZ) ++ zWd cI (kRat cI) (zx q9 x10) zZ)) (a1 := q11) (sh := (kRat cI)) (S1 := zZ) hP hD hS hA 0 hM.2.2.2.2.2.2.2.1 uN_X1 uI_X1_init uC_X1_init rfl yd_X1_init rfl rfl ⟨(Nat.le_of_ble_eq_true rfl), (Nat.le_of_ble_eq_true rfl)⟩ (As := []) (fun sz => kiX1) rfl hl.1 rfl (Nat.le_of_ble_eq_true rfl) dX4_init_72 ⟨(Nat.le_of_ble_eq_true rfl), (Nat.le_of_ble_eq_true rfl)⟩ (fun x12 H locs hP hD hS => ?_)
  refine W.widen (k := 10) (n := 40) (Nat.le_of_ble_eq_true rfl) (Nat.le_of_ble_eq_true rfl) ?_
  have hP : va_P (dC, dI) vwCl ((a, .inr (4, [.ref q1, .ref q3, .ref q5, .ref q7, .int 0, .int 0, .ref q9, .null, .null])) :: (((((zWd cI (kRow cI 8) (zx q1 x2) zZ ++ zWd cI (kRow cI 8) (zx q3 x4) zZ) ++ zWd cI (kRow cI 8) (zx q5 x6) zZ) ++ zWd cI (kRow cI 8) (zx q7 x8) zZ) ++ zWd cI (kRat cI) (zx q9 x10) zZ) ++ zWd cI (kRat cI) (zx q11 x12) zZ)) H := hP
  have hD : va_D A ((a, .inr (4, [.ref q1, .ref q3, .ref q5, .ref q7, .int 0, .int 0, .ref q9, .null, .null])) :: (((((zWd cI (kRow cI 8) (zx q1 x2) zZ ++ zWd cI (kRow cI 8) (zx q3 x4) zZ) ++ zWd cI (kRow cI 8) (zx q5 x6) zZ) ++ zWd cI (kRow cI 8) (zx q7 x8) zZ) ++ zWd cI (kRat cI) (zx q9 x10) zZ) ++ zWd cI (kRat cI) (zx q11 x12) zZ)) := hD
  refine va_putF (D := (dC, dI)) (ci := 4) (v := .ref q11) (C := RX4) (T := TX4) (N := 9) hx hb hU uU_X4 tyX4 tyX4_ok nmX4 hown hK hP hD hS 0 rfl rfl 7 (by decide) (hU _ uF_X4_36) (fun _ h9 => h9) rfl hin rfl (tyX4_ok 7 (by decide)) rfl rfl (Nat.le_of_ble_eq_true rfl) dX4_init_75 (fun H locs hP hD hS => ?_)
  have hP : va_P (dC, dI) vwCl ((a, .inr (4, [.ref q1, .ref q3, .ref q5, .ref q7, .int 0, .int 0, .ref q9, .ref q11, .null])) :: (((((zWd cI (kRow cI 8) (zx q1 x2) zZ ++ zWd cI (kRow cI 8) (zx q3 x4) zZ) ++ zWd cI (kRow cI 8) (zx q5 x6) zZ) ++ zWd cI (kRow cI 8) (zx q7 x8) zZ) ++ zWd cI (kRat cI) (zx q9 x10) zZ) ++ zWd cI (kRat cI) (zx q11 x12) zZ)) H := hP
  have hD : va_D A ((a, .inr (4, [.ref q1, .ref q3, .ref q5, .ref q7, .int 0, .int 0, .ref q9, .ref q11, .null])) :: (((((zWd cI (kRow cI 8) (zx q1 x2) zZ ++ zWd cI (kRow cI 8) (zx q3 x4) zZ) ++ zWd cI (kRow cI 8) (zx q5 x6) zZ) ++ zWd cI (kRow cI 8) (zx q7 x8) zZ) ++ zWd cI (kRat cI) (zx q9 x10) zZ) ++ zWd cI (kRat cI) (zx q11 x12) zZ)) := hD
  refine lv_aload_n hx hb dX4_init_78 rfl (lv_at hl 0 rfl) ?_
  refine va_new (ci := 1) (fs := [.long 0, .long 0]) (C := RX1) (T := TX1) (N := 2) hx hb hU uU_X1 tyX1 tyX1_ok hown (hU _ uG_X4_29) (hU _ uM_X1) (hU _ uN_X1) hK hP hD hS hA rfl dfX1 (Nat.le_of_ble_eq_true rfl) (Nat.le_of_ble_eq_true rfl) dX4_init_79 (fun q13 H hP hD hS => ?_)
  refine W.widen (k := 11) (n := 42) (Nat.le_of_ble_eq_true rfl) (Nat.le_of_ble_eq_true rfl) ?_
  refine lv_dup hx hb dX4_init_82 rfl ?_
  refine z_kcallN hx hb hml hown hU hK hM (W0 := (a, .inr (4, [.ref q1, .ref q3, .ref q5, .ref q7, .int 0, .int 0, .ref q9, .ref q11, .null])) :: (((((zWd cI (kRow cI 8) (zx q1 x2) zZ ++ zWd cI (kRow cI 8) (zx q3 x4) zZ) ++ zWd cI (kRow cI 8) (zx q5 x6) zZ) ++ zWd cI (kRow cI 8) (zx q7 x8) zZ) ++ zWd cI (kRat cI) (zx q9 x10) zZ) ++ zWd cI (kRat cI) (zx q11 x12) zZ)) (a1 := q13) (sh := (kRat cI)) (S1 := zZ) hP hD hS hA 0 hM.2.2.2.2.2.2.2.1 uN_X1 uI_X1_init uC_X1_init rfl yd_X1_init rfl rfl ⟨(Nat.le_of_ble_eq_true rfl), (Nat.le_of_ble_eq_true rfl)⟩ (As := []) (fun sz => kiX1) rfl hl.1 rfl (Nat.le_of_ble_eq_true rfl) dX4_init_83 ⟨(Nat.le_of_ble_eq_true rfl), (Nat.le_of_ble_eq_true rfl)⟩ (fun x14 H locs hP hD hS => ?_)
  refine W.widen (k := 11) (n := 42) (Nat.le_of_ble_eq_true rfl) (Nat.le_of_ble_eq_true rfl) ?_
  have hP : va_P (dC, dI) vwCl ((a, .inr (4, [.ref q1, .ref q3, .ref q5, .ref q7, .int 0, .int 0, .ref q9, .ref q11, .null])) :: ((((((zWd cI (kRow cI 8) (zx q1 x2) zZ ++ zWd cI (kRow cI 8) (zx q3 x4) zZ) ++ zWd cI (kRow cI 8) (zx q5 x6) zZ) ++ zWd cI (kRow cI 8) (zx q7 x8) zZ) ++ zWd cI (kRat cI) (zx q9 x10) zZ) ++ zWd cI (kRat cI) (zx q11 x12) zZ) ++ zWd cI (kRat cI) (zx q13 x14) zZ)) H := hP
  have hD : va_D A ((a, .inr (4, [.ref q1, .ref q3, .ref q5, .ref q7, .int 0, .int 0, .ref q9, .ref q11, .null])) :: ((((((zWd cI (kRow cI 8) (zx q1 x2) zZ ++ zWd cI (kRow cI 8) (zx q3 x4) zZ) ++ zWd cI (kRow cI 8) (zx q5 x6) zZ) ++ zWd cI (kRow cI 8) (zx q7 x8) zZ) ++ zWd cI (kRat cI) (zx q9 x10) zZ) ++ zWd cI (kRat cI) (zx q11 x12) zZ) ++ zWd cI (kRat cI) (zx q13 x14) zZ)) := hD
  refine va_putF (D := (dC, dI)) (ci := 4) (v := .ref q13) (C := RX4) (T := TX4) (N := 9) hx hb hU uU_X4 tyX4 tyX4_ok nmX4 hown hK hP hD hS 0 rfl rfl 8 (by decide) (hU _ uF_X4_39) (fun _ h9 => h9) rfl hin rfl (tyX4_ok 8 (by decide)) rfl rfl (Nat.le_of_ble_eq_true rfl) dX4_init_86 (fun H locs hP hD hS => ?_)
  have hP : va_P (dC, dI) vwCl ((a, .inr (4, [.ref q1, .ref q3, .ref q5, .ref q7, .int 0, .int 0, .ref q9, .ref q11, .ref q13])) :: ((((((zWd cI (kRow cI 8) (zx q1 x2) zZ ++ zWd cI (kRow cI 8) (zx q3 x4) zZ) ++ zWd cI (kRow cI 8) (zx q5 x6) zZ) ++ zWd cI (kRow cI 8) (zx q7 x8) zZ) ++ zWd cI (kRat cI) (zx q9 x10) zZ) ++ zWd cI (kRat cI) (zx q11 x12) zZ) ++ zWd cI (kRat cI) (zx q13 x14) zZ)) H := hP
  have hD : va_D A ((a, .inr (4, [.ref q1, .ref q3, .ref q5, .ref q7, .int 0, .int 0, .ref q9, .ref q11, .ref q13])) :: ((((((zWd cI (kRow cI 8) (zx q1 x2) zZ ++ zWd cI (kRow cI 8) (zx q3 x4) zZ) ++ zWd cI (kRow cI 8) (zx q5 x6) zZ) ++ zWd cI (kRow cI 8) (zx q7 x8) zZ) ++ zWd cI (kRat cI) (zx q9 x10) zZ) ++ zWd cI (kRat cI) (zx q11 x12) zZ) ++ zWd cI (kRat cI) (zx q13 x14) zZ)) := hD
  exact z_kret hx hb hlocks hP hD hS hQ hAe hr dX4_init_89 (fun k => if k = 0 then a else if k < 3 then (zx q1 x2) (k - 1) else if k < 5 then (zx q3 x4) (k - 3) else if k < 7 then (zx q5 x6) (k - 5) else if k < 9 then (zx q7 x8) (k - 7) else if k < 10 then (zx q9 x10) (k - 9) else if k < 11 then (zx q11 x12) (k - 10) else (zx q13 x14) (k - 11)) rfl rfl
abbrev rmX5_init : Room := { frames := 3, cells := 26, slots := 493, locals := 70 }
theorem yd_X5_init : yX5_init.cls ≠ "java/lang/invoke/MethodHandle" ∧ yX5_init.cls ≠ "java/lang/invoke/VarHandle" ∧ (parseMethodDescriptor yX5_init.desc).map (fun d => d.parameters.length) = some 0 := by decide +kernel
set_option maxRecDepth 100000 in
set_option maxHeartbeats 4000000 in
theorem kiX5 {l : Launch} {dC : Nat → ClassId} {dI : Nat → Nat → Nat} {cI : ClassId × ClassId} {a sz : Nat} : zCk l dC dI cI yX5_init (Cond.code yX5_init cX5_init 1 none :: zU) rmX5_init [.ref a] a 5 [.null, .null, .null, .null, .int 0, .null, .null] sz (kStr cI) zZ 26 493 := by
  refine zMetK (lv := [(0, .ref a)]) (by decide) rfl (Nat.le_of_ble_eq_true rfl) rfl ?_
  intro p e s m args below meth c Q A hx hb hml hr hU hown hlocks hin hK hM hP hD hS hA hAe ls hl hQ
  replace hown : s.vm.findClass RX5 = some m.cls := hown
  refine lv_aload_n hx hb dX5_init_0 rfl (lv_at hl 0 rfl) ?_
  refine z_kobj hx hb hown hml hl.1 hU uL_X5_3 dX5_init_1 (Nat.le_of_ble_eq_true rfl) (Nat.le_of_ble_eq_true rfl) ?_
  refine lv_aload_n hx hb dX5_init_4 rfl (lv_at hl 0 rfl) ?_
  refine va_new (ci := 6) (fs := [.int 0, .int 0, .int 0, .int 0, .int 0, .int 0, .int 0, .null, .null, .null]) (C := RX6) (T := TX6) (N := 10) hx hb hU uU_X6 tyX6 tyX6_ok hown (hU _ uG_X5_9) (hU _ uM_X6) (hU _ uN_X6) hK hP hD hS hA rfl dfX6 (Nat.le_of_ble_eq_true rfl) (Nat.le_of_ble_eq_true rfl) dX5_init_5 (fun q1 H hP hD hS => ?_)
  refine W.widen (k := 1) (n := 10) (Nat.le_of_ble_eq_true rfl) (Nat.le_of_ble_eq_true rfl) ?_
  refine lv_dup hx hb dX5_init_8 rfl ?_
  refine z_kcallN hx hb hml hown hU hK hM (W0 := [(a, .inr (5, [.null, .null, .null, .null, .int 0, .null, .null]))]) (a1 := q1) (sh := (kWk cI)) (S1 := zZ) hP hD hS hA 0 hM.2.2.2.2.2.1 uN_X6 uI_X6_init uC_X6_init rfl yd_X6_init rfl rfl ⟨(Nat.le_of_ble_eq_true rfl), (Nat.le_of_ble_eq_true rfl)⟩ (As := []) (fun sz => kiX6) rfl hl.1 rfl (Nat.le_of_ble_eq_true rfl) dX5_init_9 ⟨(Nat.le_of_ble_eq_true rfl), (Nat.le_of_ble_eq_true rfl)⟩ (fun x2 H locs hP hD hS => ?_)
  refine W.widen (k := 7) (n := 45) (Nat.le_of_ble_eq_true rfl) (Nat.le_of_ble_eq_true rfl) ?_
  have hP : va_P (dC, dI) vwCl ((a, .inr (5, [.null, .null, .null, .null, .int 0, .null, .null])) :: zWd cI (kWk cI) (zx q1 x2) zZ) H := hP
  have hD : va_D A ((a, .inr (5, [.null, .null, .null, .null, .int 0, .null, .null])) :: zWd cI (kWk cI) (zx q1 x2) zZ) := hD
  refine va_putF (D := (dC, dI)) (ci := 5) (v := .ref q1) (C := RX5) (T := TX5) (N := 7) hx hb hU uU_X5 tyX5 tyX5_ok nmX5 hown hK hP hD hS 0 rfl rfl 0 (by decide) (hU _ uF_X5_12) (fun _ h9 => h9) rfl hin rfl (tyX5_ok 0 (by decide)) rfl rfl (Nat.le_of_ble_eq_true rfl) dX5_init_12 (fun H locs hP hD hS => ?_)
  have hP : va_P (dC, dI) vwCl ((a, .inr (5, [.ref q1, .null, .null, .null, .int 0, .null, .null])) :: zWd cI (kWk cI) (zx q1 x2) zZ) H := hP
  have hD : va_D A ((a, .inr (5, [.ref q1, .null, .null, .null, .int 0, .null, .null])) :: zWd cI (kWk cI) (zx q1 x2) zZ) := hD
  refine lv_aload_n hx hb dX5_init_15 rfl (lv_at hl 0 rfl) ?_
  refine va_new (ci := 2) (fs := [.null]) (C := RX2) (T := TX2) (N := 1) hx hb hU uU_X2 tyX2 tyX2_ok hown (hU _ uG_X5_18) (hU _ uM_X2) (hU _ uN_X2) hK hP hD hS hA rfl dfX2 (Nat.le_of_ble_eq_true rfl) (Nat.le_of_ble_eq_true rfl) dX5_init_16 (fun q3 H hP hD hS => ?_)
  refine W.widen (k := 8) (n := 46) (Nat.le_of_ble_eq_true rfl) (Nat.le_of_ble_eq_true rfl) ?_
  refine lv_dup hx hb dX5_init_19 rfl ?_
  refine lv_sipush (v := 128) hx hb dX5_init_20 rfl ?_
  refine z_kcallI hx hb hml hown hU hK hM (W0 := (a, .inr (5, [.ref q1, .null, .null, .null, .int 0, .null, .null])) :: zWd cI (kWk cI) (zx q1 x2) zZ) (a1 := q3) (sh := (kRow cI 128)) (S1 := zZ) hP hD hS hA 1 uL_X5_20 uN_X2 uI_X2_init uC_X2_init rfl yd_X2_init rfl rfl ⟨(Nat.le_of_ble_eq_true rfl), (Nat.le_of_ble_eq_true rfl)⟩ (As := [.int 128]) (fun sz => kiX2 (v := 128) (n := 128) (by decide) (by decide) (by decide)) rfl hl.1 rfl (Nat.le_of_ble_eq_true rfl) dX5_init_23 ⟨(Nat.le_of_ble_eq_true rfl), (Nat.le_of_ble_eq_true rfl)⟩ (fun x4 H locs hP hD hS => ?_)
  refine W.widen (k := 9) (n := 174) (Nat.le_of_ble_eq_true rfl) (Nat.le_of_ble_eq_true rfl) ?_
  have hP : va_P (dC, dI) vwCl ((a, .inr (5, [.ref q1, .null, .null, .null, .int 0, .null, .null])) :: (zWd cI (kWk cI) (zx q1 x2) zZ ++ zWd cI (kRow cI 128) (zx q3 x4) zZ)) H := hP
  have hD : va_D A ((a, .inr (5, [.ref q1, .null, .null, .null, .int 0, .null, .null])) :: (zWd cI (kWk cI) (zx q1 x2) zZ ++ zWd cI (kRow cI 128) (zx q3 x4) zZ)) := hD
  refine va_putF (D := (dC, dI)) (ci := 5) (v := .ref q3) (C := RX5) (T := TX5) (N := 7) hx hb hU uU_X5 tyX5 tyX5_ok nmX5 hown hK hP hD hS 0 rfl rfl 1 (by decide) (hU _ uF_X5_23) (fun _ h9 => h9) rfl hin rfl (tyX5_ok 1 (by decide)) rfl rfl (Nat.le_of_ble_eq_true rfl) dX5_init_26 (fun H locs hP hD hS => ?_)
  have hP : va_P (dC, dI) vwCl ((a, .inr (5, [.ref q1, .ref q3, .null, .null, .int 0, .null, .null])) :: (zWd cI (kWk cI) (zx q1 x2) zZ ++ zWd cI (kRow cI 128) (zx q3 x4) zZ)) H := hP
  have hD : va_D A ((a, .inr (5, [.ref q1, .ref q3, .null, .null, .int 0, .null, .null])) :: (zWd cI (kWk cI) (zx q1 x2) zZ ++ zWd cI (kRow cI 128) (zx q3 x4) zZ)) := hD
  refine lv_aload_n hx hb dX5_init_29 rfl (lv_at hl 0 rfl) ?_
  refine va_new (ci := 2) (fs := [.null]) (C := RX2) (T := TX2) (N := 1) hx hb hU uU_X2 tyX2 tyX2_ok hown (hU _ uG_X5_18) (hU _ uM_X2) (hU _ uN_X2) hK hP hD hS hA rfl dfX2 (Nat.le_of_ble_eq_true rfl) (Nat.le_of_ble_eq_true rfl) dX5_init_30 (fun q5 H hP hD hS => ?_)
  refine W.widen (k := 10) (n := 175) (Nat.le_of_ble_eq_true rfl) (Nat.le_of_ble_eq_true rfl) ?_
  refine lv_dup hx hb dX5_init_33 rfl ?_
  refine lv_bipush (v := 8) hx hb dX5_init_34 rfl ?_
  refine z_kcallI hx hb hml hown hU hK hM (W0 := (a, .inr (5, [.ref q1, .ref q3, .null, .null, .int 0, .null, .null])) :: (zWd cI (kWk cI) (zx q1 x2) zZ ++ zWd cI (kRow cI 128) (zx q3 x4) zZ)) (a1 := q5) (sh := (kRow cI 8)) (S1 := zZ) hP hD hS hA 1 uL_X5_20 uN_X2 uI_X2_init uC_X2_init rfl yd_X2_init rfl rfl ⟨(Nat.le_of_ble_eq_true rfl), (Nat.le_of_ble_eq_true rfl)⟩ (As := [.int 8]) (fun sz => kiX2 (v := 8) (n := 8) (by decide) (by decide) (by decide)) rfl hl.1 rfl (Nat.le_of_ble_eq_true rfl) dX5_init_36 ⟨(Nat.le_of_ble_eq_true rfl), (Nat.le_of_ble_eq_true rfl)⟩ (fun x6 H locs hP hD hS => ?_)
  refine W.widen (k := 11) (n := 183) (Nat.le_of_ble_eq_true rfl) (Nat.le_of_ble_eq_true rfl) ?_
  have hP : va_P (dC, dI) vwCl ((a, .inr (5, [.ref q1, .ref q3, .null, .null, .int 0, .null, .null])) :: ((zWd cI (kWk cI) (zx q1 x2) zZ ++ zWd cI (kRow cI 128) (zx q3 x4) zZ) ++ zWd cI (kRow cI 8) (zx q5 x6) zZ)) H := hP
  have hD : va_D A ((a, .inr (5, [.ref q1, .ref q3, .null, .null, .int 0, .null, .null])) :: ((zWd cI (kWk cI) (zx q1 x2) zZ ++ zWd cI (kRow cI 128) (zx q3 x4) zZ) ++ zWd cI (kRow cI 8) (zx q5 x6) zZ)) := hD
  refine va_putF (D := (dC, dI)) (ci := 5) (v := .ref q5) (C := RX5) (T := TX5) (N := 7) hx hb hU uU_X5 tyX5 tyX5_ok nmX5 hown hK hP hD hS 0 rfl rfl 2 (by decide) (hU _ uF_X5_27) (fun _ h9 => h9) rfl hin rfl (tyX5_ok 2 (by decide)) rfl rfl (Nat.le_of_ble_eq_true rfl) dX5_init_39 (fun H locs hP hD hS => ?_)
  have hP : va_P (dC, dI) vwCl ((a, .inr (5, [.ref q1, .ref q3, .ref q5, .null, .int 0, .null, .null])) :: ((zWd cI (kWk cI) (zx q1 x2) zZ ++ zWd cI (kRow cI 128) (zx q3 x4) zZ) ++ zWd cI (kRow cI 8) (zx q5 x6) zZ)) H := hP
  have hD : va_D A ((a, .inr (5, [.ref q1, .ref q3, .ref q5, .null, .int 0, .null, .null])) :: ((zWd cI (kWk cI) (zx q1 x2) zZ ++ zWd cI (kRow cI 128) (zx q3 x4) zZ) ++ zWd cI (kRow cI 8) (zx q5 x6) zZ)) := hD
  refine lv_aload_n hx hb dX5_init_42 rfl (lv_at hl 0 rfl) ?_
  refine va_new (ci := 2) (fs := [.null]) (C := RX2) (T := TX2) (N := 1) hx hb hU uU_X2 tyX2 tyX2_ok hown (hU _ uG_X5_18) (hU _ uM_X2) (hU _ uN_X2) hK hP hD hS hA rfl dfX2 (Nat.le_of_ble_eq_true rfl) (Nat.le_of_ble_eq_true rfl) dX5_init_43 (fun q7 H hP hD hS => ?_)
  refine W.widen (k := 12) (n := 184) (Nat.le_of_ble_eq_true rfl) (Nat.le_of_ble_eq_true rfl) ?_
  refine lv_dup hx hb dX5_init_46 rfl ?_
  refine lv_sipush (v := 256) hx hb dX5_init_47 rfl ?_
  refine z_kcallI hx hb hml hown hU hK hM (W0 := (a, .inr (5, [.ref q1, .ref q3, .ref q5, .null, .int 0, .null, .null])) :: ((zWd cI (kWk cI) (zx q1 x2) zZ ++ zWd cI (kRow cI 128) (zx q3 x4) zZ) ++ zWd cI (kRow cI 8) (zx q5 x6) zZ)) (a1 := q7) (sh := (kRow cI 256)) (S1 := zZ) hP hD hS hA 1 uL_X5_20 uN_X2 uI_X2_init uC_X2_init rfl yd_X2_init rfl rfl ⟨(Nat.le_of_ble_eq_true rfl), (Nat.le_of_ble_eq_true rfl)⟩ (As := [.int 256]) (fun sz => kiX2 (v := 256) (n := 256) (by decide) (by decide) (by decide)) rfl hl.1 rfl (Nat.le_of_ble_eq_true rfl) dX5_init_50 ⟨(Nat.le_of_ble_eq_true rfl), (Nat.le_of_ble_eq_true rfl)⟩ (fun x8 H locs hP hD hS => ?_)
  refine W.widen (k := 13) (n := 440) (Nat.le_of_ble_eq_true rfl) (Nat.le_of_ble_eq_true rfl) ?_
  have hP : va_P (dC, dI) vwCl ((a, .inr (5, [.ref q1, .ref q3, .ref q5, .null, .int 0, .null, .null])) :: (((zWd cI (kWk cI) (zx q1 x2) zZ ++ zWd cI (kRow cI 128) (zx q3 x4) zZ) ++ zWd cI (kRow cI 8) (zx q5 x6) zZ) ++ zWd cI (kRow cI 256) (zx q7 x8) zZ)) H := hP
  have hD : va_D A ((a, .inr (5, [.ref q1, .ref q3, .ref q5, .null, .int 0, .null, .null])) :: (((zWd cI (kWk cI) (zx q1 x2) zZ ++ zWd cI (kRow cI 128) (zx q3 x4) zZ) ++ zWd cI (kRow cI 8) (zx q5 x6) zZ) ++ zWd cI (kRow cI 256) (zx q7 x8) zZ)) := hD
  refine va_putF (D := (dC, dI)) (ci := 5) (v := .ref q7) (C := RX5) (T := TX5) (N := 7) hx hb hU uU_X5 tyX5 tyX5_ok nmX5 hown hK hP hD hS 0 rfl rfl 3 (by decide) (hU _ uF_X5_30) (fun _ h9 => h9) rfl hin rfl (tyX5_ok 3 (by decide)) rfl rfl (Nat.le_of_ble_eq_true rfl) dX5_init_53 (fun H locs hP hD hS => ?_)
  have hP : va_P (dC, dI) vwCl ((a, .inr (5, [.ref q1, .ref q3, .ref q5, .ref q7, .int 0, .null, .null])) :: (((zWd cI (kWk cI) (zx q1 x2) zZ ++ zWd cI (kRow cI 128) (zx q3 x4) zZ) ++ zWd cI (kRow cI 8) (zx q5 x6) zZ) ++ zWd cI (kRow cI 256) (zx q7 x8) zZ)) H := hP
  have hD : va_D A ((a, .inr (5, [.ref q1, .ref q3, .ref q5, .ref q7, .int 0, .null, .null])) :: (((zWd cI (kWk cI) (zx q1 x2) zZ ++ zWd cI (kRow cI 128) (zx q3 x4) zZ) ++ zWd cI (kRow cI 8) (zx q5 x6) zZ) ++ zWd cI (kRow cI 256) (zx q7 x8) zZ)) := hD
  refine lv_aload_n hx hb dX5_init_56 rfl (lv_at hl 0 rfl) ?_
  refine va_new (ci := 4) (fs := [.null, .null, .null, .null, .int 0, .int 0, .null, .null, .null]) (C := RX4) (T := TX4) (N := 9) hx hb hU uU_X4 tyX4 tyX4_ok hown (hU _ uG_X5_33) (hU _ uM_X4) (hU _ uN_X4) hK hP hD hS hA rfl dfX4 (Nat.le_of_ble_eq_true rfl) (Nat.le_of_ble_eq_true rfl) dX5_init_57 (fun q9 H hP hD hS => ?_)
  refine W.widen (k := 14) (n := 449) (Nat.le_of_ble_eq_true rfl) (Nat.le_of_ble_eq_true rfl) ?_
  refine lv_dup hx hb dX5_init_60 rfl ?_
  refine z_kcallN hx hb hml hown hU hK hM (W0 := (a, .inr (5, [.ref q1, .ref q3, .ref q5, .ref q7, .int 0, .null, .null])) :: (((zWd cI (kWk cI) (zx q1 x2) zZ ++ zWd cI (kRow cI 128) (zx q3 x4) zZ) ++ zWd cI (kRow cI 8) (zx q5 x6) zZ) ++ zWd cI (kRow cI 256) (zx q7 x8) zZ)) (a1 := q9) (sh := (kSpan cI)) (S1 := zZ) hP hD hS hA 0 hM.2.2.2.2.2.2.1 uN_X4 uI_X4_init uC_X4_init rfl yd_X4_init rfl rfl ⟨(Nat.le_of_ble_eq_true rfl), (Nat.le_of_ble_eq_true rfl)⟩ (As := []) (fun sz => kiX4) rfl hl.1 rfl (Nat.le_of_ble_eq_true rfl) dX5_init_61 ⟨(Nat.le_of_ble_eq_true rfl), (Nat.le_of_ble_eq_true rfl)⟩ (fun x10 H locs hP hD hS => ?_)
  refine W.widen (k := 25) (n := 491) (Nat.le_of_ble_eq_true rfl) (Nat.le_of_ble_eq_true rfl) ?_
  have hP : va_P (dC, dI) vwCl ((a, .inr (5, [.ref q1, .ref q3, .ref q5, .ref q7, .int 0, .null, .null])) :: ((((zWd cI (kWk cI) (zx q1 x2) zZ ++ zWd cI (kRow cI 128) (zx q3 x4) zZ) ++ zWd cI (kRow cI 8) (zx q5 x6) zZ) ++ zWd cI (kRow cI 256) (zx q7 x8) zZ) ++ zWd cI (kSpan cI) (zx q9 x10) zZ)) H := hP
  have hD : va_D A ((a, .inr (5, [.ref q1, .ref q3, .ref q5, .ref q7, .int 0, .null, .null])) :: ((((zWd cI (kWk cI) (zx q1 x2) zZ ++ zWd cI (kRow cI 128) (zx q3 x4) zZ) ++ zWd cI (kRow cI 8) (zx q5 x6) zZ) ++ zWd cI (kRow cI 256) (zx q7 x8) zZ) ++ zWd cI (kSpan cI) (zx q9 x10) zZ)) := hD
  refine va_putF (D := (dC, dI)) (ci := 5) (v := .ref q9) (C := RX5) (T := TX5) (N := 7) hx hb hU uU_X5 tyX5 tyX5_ok nmX5 hown hK hP hD hS 0 rfl rfl 5 (by decide) (hU _ uF_X5_36) (fun _ h9 => h9) rfl hin rfl (tyX5_ok 5 (by decide)) rfl rfl (Nat.le_of_ble_eq_true rfl) dX5_init_64 (fun H locs hP hD hS => ?_)
  have hP : va_P (dC, dI) vwCl ((a, .inr (5, [.ref q1, .ref q3, .ref q5, .ref q7, .int 0, .ref q9, .null])) :: ((((zWd cI (kWk cI) (zx q1 x2) zZ ++ zWd cI (kRow cI 128) (zx q3 x4) zZ) ++ zWd cI (kRow cI 8) (zx q5 x6) zZ) ++ zWd cI (kRow cI 256) (zx q7 x8) zZ) ++ zWd cI (kSpan cI) (zx q9 x10) zZ)) H := hP
  have hD : va_D A ((a, .inr (5, [.ref q1, .ref q3, .ref q5, .ref q7, .int 0, .ref q9, .null])) :: ((((zWd cI (kWk cI) (zx q1 x2) zZ ++ zWd cI (kRow cI 128) (zx q3 x4) zZ) ++ zWd cI (kRow cI 8) (zx q5 x6) zZ) ++ zWd cI (kRow cI 256) (zx q7 x8) zZ) ++ zWd cI (kSpan cI) (zx q9 x10) zZ)) := hD
  refine lv_aload_n hx hb dX5_init_67 rfl (lv_at hl 0 rfl) ?_
  refine va_new (ci := 1) (fs := [.long 0, .long 0]) (C := RX1) (T := TX1) (N := 2) hx hb hU uU_X1 tyX1 tyX1_ok hown (hU _ uG_X5_40) (hU _ uM_X1) (hU _ uN_X1) hK hP hD hS hA rfl dfX1 (Nat.le_of_ble_eq_true rfl) (Nat.le_of_ble_eq_true rfl) dX5_init_68 (fun q11 H hP hD hS => ?_)
  refine W.widen (k := 26) (n := 493) (Nat.le_of_ble_eq_true rfl) (Nat.le_of_ble_eq_true rfl) ?_
  refine lv_dup hx hb dX5_init_71 rfl ?_
  refine z_kcallN hx hb hml hown hU hK hM (W0 := (a, .inr (5, [.ref q1, .ref q3, .ref q5, .ref q7, .int 0, .ref q9, .null])) :: ((((zWd cI (kWk cI) (zx q1 x2) zZ ++ zWd cI (kRow cI 128) (zx q3 x4) zZ) ++ zWd cI (kRow cI 8) (zx q5 x6) zZ) ++ zWd cI (kRow cI 256) (zx q7 x8) zZ) ++ zWd cI (kSpan cI) (zx q9 x10) zZ)) (a1 := q11) (sh := (kRat cI)) (S1 := zZ) hP hD hS hA 0 hM.2.2.2.2.2.2.2.2.1 uN_X1 uI_X1_init uC_X1_init rfl yd_X1_init rfl rfl ⟨(Nat.le_of_ble_eq_true rfl), (Nat.le_of_ble_eq_true rfl)⟩ (As := []) (fun sz => kiX1) rfl hl.1 rfl (Nat.le_of_ble_eq_true rfl) dX5_init_72 ⟨(Nat.le_of_ble_eq_true rfl), (Nat.le_of_ble_eq_true rfl)⟩ (fun x12 H locs hP hD hS => ?_)
  refine W.widen (k := 26) (n := 493) (Nat.le_of_ble_eq_true rfl) (Nat.le_of_ble_eq_true rfl) ?_
  have hP : va_P (dC, dI) vwCl ((a, .inr (5, [.ref q1, .ref q3, .ref q5, .ref q7, .int 0, .ref q9, .null])) :: (((((zWd cI (kWk cI) (zx q1 x2) zZ ++ zWd cI (kRow cI 128) (zx q3 x4) zZ) ++ zWd cI (kRow cI 8) (zx q5 x6) zZ) ++ zWd cI (kRow cI 256) (zx q7 x8) zZ) ++ zWd cI (kSpan cI) (zx q9 x10) zZ) ++ zWd cI (kRat cI) (zx q11 x12) zZ)) H := hP
  have hD : va_D A ((a, .inr (5, [.ref q1, .ref q3, .ref q5, .ref q7, .int 0, .ref q9, .null])) :: (((((zWd cI (kWk cI) (zx q1 x2) zZ ++ zWd cI (kRow cI 128) (zx q3 x4) zZ) ++ zWd cI (kRow cI 8) (zx q5 x6) zZ) ++ zWd cI (kRow cI 256) (zx q7 x8) zZ) ++ zWd cI (kSpan cI) (zx q9 x10) zZ) ++ zWd cI (kRat cI) (zx q11 x12) zZ)) := hD
  refine va_putF (D := (dC, dI)) (ci := 5) (v := .ref q11) (C := RX5) (T := TX5) (N := 7) hx hb hU uU_X5 tyX5 tyX5_ok nmX5 hown hK hP hD hS 0 rfl rfl 6 (by decide) (hU _ uF_X5_43) (fun _ h9 => h9) rfl hin rfl (tyX5_ok 6 (by decide)) rfl rfl (Nat.le_of_ble_eq_true rfl) dX5_init_75 (fun H locs hP hD hS => ?_)
  have hP : va_P (dC, dI) vwCl ((a, .inr (5, [.ref q1, .ref q3, .ref q5, .ref q7, .int 0, .ref q9, .ref q11])) :: (((((zWd cI (kWk cI) (zx q1 x2) zZ ++ zWd cI (kRow cI 128) (zx q3 x4) zZ) ++ zWd cI (kRow cI 8) (zx q5 x6) zZ) ++ zWd cI (kRow cI 256) (zx q7 x8) zZ) ++ zWd cI (kSpan cI) (zx q9 x10) zZ) ++ zWd cI (kRat cI) (zx q11 x12) zZ)) H := hP
  have hD : va_D A ((a, .inr (5, [.ref q1, .ref q3, .ref q5, .ref q7, .int 0, .ref q9, .ref q11])) :: (((((zWd cI (kWk cI) (zx q1 x2) zZ ++ zWd cI (kRow cI 128) (zx q3 x4) zZ) ++ zWd cI (kRow cI 8) (zx q5 x6) zZ) ++ zWd cI (kRow cI 256) (zx q7 x8) zZ) ++ zWd cI (kSpan cI) (zx q9 x10) zZ) ++ zWd cI (kRat cI) (zx q11 x12) zZ)) := hD
  exact z_kret hx hb hlocks hP hD hS hQ hAe hr dX5_init_78 (fun k => if k = 0 then a else if k < 8 then (zx q1 x2) (k - 1) else if k < 10 then (zx q3 x4) (k - 8) else if k < 12 then (zx q5 x6) (k - 10) else if k < 14 then (zx q7 x8) (k - 12) else if k < 26 then (zx q9 x10) (k - 14) else (zx q11 x12) (k - 26)) rfl rfl
abbrev rmX3_init : Room := { frames := 4, cells := 31, slots := 589, locals := 90 }
theorem yd_X3_init : yX3_init.cls ≠ "java/lang/invoke/MethodHandle" ∧ yX3_init.cls ≠ "java/lang/invoke/VarHandle" ∧ (parseMethodDescriptor yX3_init.desc).map (fun d => d.parameters.length) = some 0 := by decide +kernel
set_option maxRecDepth 100000 in
set_option maxHeartbeats 4000000 in
theorem kiX3 {l : Launch} {dC : Nat → ClassId} {dI : Nat → Nat → Nat} {cI : ClassId × ClassId} {a sz : Nat} : zCk l dC dI cI yX3_init (Cond.code yX3_init cX3_init 1 none :: zU) rmX3_init [.ref a] a 3 [.null, .null, .null, .null, .int 0] sz (kRows cI) zZ 31 589 := by
  refine zMetK (lv := [(0, .ref a)]) (by decide) rfl (Nat.le_of_ble_eq_true rfl) rfl ?_
  intro p e s m args below meth c Q A hx hb hml hr hU hown hlocks hin hK hM hP hD hS hA hAe ls hl hQ
  replace hown : s.vm.findClass RX3 = some m.cls := hown
  refine lv_aload_n hx hb dX3_init_0 rfl (lv_at hl 0 rfl) ?_
  refine z_kobj hx hb hown hml hl.1 hU uL_X3_3 dX3_init_1 (Nat.le_of_ble_eq_true rfl) (Nat.le_of_ble_eq_true rfl) ?_
  refine lv_aload_n hx hb dX3_init_4 rfl (lv_at hl 0 rfl) ?_
  refine va_new (ci := 5) (fs := [.null, .null, .null, .null, .int 0, .null, .null]) (C := RX5) (T := TX5) (N := 7) hx hb hU uU_X5 tyX5 tyX5_ok hown (hU _ uG_X3_9) (hU _ uM_X5) (hU _ uN_X5) hK hP hD hS hA rfl dfX5 (Nat.le_of_ble_eq_true rfl) (Nat.le_of_ble_eq_true rfl) dX3_init_5 (fun q1 H hP hD hS => ?_)
  refine W.widen (k := 1) (n := 7) (Nat.le_of_ble_eq_true rfl) (Nat.le_of_ble_eq_true rfl) ?_
  refine lv_dup hx hb dX3_init_8 rfl ?_
  refine z_kcallN hx hb hml hown hU hK hM (W0 := [(a, .inr (3, [.null, .null, .null, .null, .int 0]))]) (a1 := q1) (sh := (kStr cI)) (S1 := zZ) hP hD hS hA 0 hM.2.2.2.2.1 uN_X5 uI_X5_init uC_X5_init rfl yd_X5_init rfl rfl ⟨(Nat.le_of_ble_eq_true rfl), (Nat.le_of_ble_eq_true rfl)⟩ (As := []) (fun sz => kiX5) rfl hl.1 rfl (Nat.le_of_ble_eq_true rfl) dX3_init_9 ⟨(Nat.le_of_ble_eq_true rfl), (Nat.le_of_ble_eq_true rfl)⟩ (fun x2 H locs hP hD hS => ?_)
  refine W.widen (k := 27) (n := 500) (Nat.le_of_ble_eq_true rfl) (Nat.le_of_ble_eq_true rfl) ?_
  have hP : va_P (dC, dI) vwCl ((a, .inr (3, [.null, .null, .null, .null, .int 0])) :: zWd cI (kStr cI) (zx q1 x2) zZ) H := hP
  have hD : va_D A ((a, .inr (3, [.null, .null, .null, .null, .int 0])) :: zWd cI (kStr cI) (zx q1 x2) zZ) := hD
  refine va_putF (D := (dC, dI)) (ci := 3) (v := .ref q1) (C := RX3) (T := TX3) (N := 5) hx hb hU uU_X3 tyX3 tyX3_ok nmX3 hown hK hP hD hS 0 rfl rfl 0 (by decide) (hU _ uF_X3_12) (fun _ h9 => h9) rfl hin rfl (tyX3_ok 0 (by decide)) rfl rfl (Nat.le_of_ble_eq_true rfl) dX3_init_12 (fun H locs hP hD hS => ?_)
  have hP : va_P (dC, dI) vwCl ((a, .inr (3, [.ref q1, .null, .null, .null, .int 0])) :: zWd cI (kStr cI) (zx q1 x2) zZ) H := hP
  have hD : va_D A ((a, .inr (3, [.ref q1, .null, .null, .null, .int 0])) :: zWd cI (kStr cI) (zx q1 x2) zZ) := hD
  refine lv_aload_n hx hb dX3_init_15 rfl (lv_at hl 0 rfl) ?_
  refine lv_aload_n hx hb dX3_init_16 rfl (lv_at hl 0 rfl) ?_
  refine va_get (D := (dC, dI)) (ci := 3) (v := .ref q1) (C := RX3) (T := TX3) (N := 5) hx hb hU uU_X3 hown hK hP 0 rfl rfl 0 (by decide) (hU _ uF_X3_12) (fun _ h9 => h9) rfl dX3_init_17 ?_
  refine va_get (D := (dC, dI)) (ci := 5) (v := .ref ((zx q1 x2) 1)) (C := RX5) (T := TX5) (N := 7) hx hb hU uU_X5 hown hK hP 1 rfl rfl 0 (by decide) (hU _ uF_X3_18) (fun _ h9 => h9) rfl dX3_init_20 ?_
  refine va_putF (D := (dC, dI)) (ci := 3) (v := .ref ((zx q1 x2) 1)) (C := RX3) (T := TX3) (N := 5) hx hb hU uU_X3 tyX3 tyX3_ok nmX3 hown hK hP hD hS 0 rfl rfl 1 (by decide) (hU _ uF_X3_22) (fun _ h9 => h9) rfl hin rfl (tyX3_ok 1 (by decide)) rfl rfl (Nat.le_of_ble_eq_true rfl) dX3_init_23 (fun H locs hP hD hS => ?_)
  have hP : va_P (dC, dI) vwCl ((a, .inr (3, [.ref q1, .ref ((zx q1 x2) 1), .null, .null, .int 0])) :: zWd cI (kStr cI) (zx q1 x2) zZ) H := hP
  have hD : va_D A ((a, .inr (3, [.ref q1, .ref ((zx q1 x2) 1), .null, .null, .int 0])) :: zWd cI (kStr cI) (zx q1 x2) zZ) := hD
  refine lv_aload_n hx hb dX3_init_26 rfl (lv_at hl 0 rfl) ?_
  refine va_new (ci := 2) (fs := [.null]) (C := RX2) (T := TX2) (N := 1) hx hb hU uU_X2 tyX2 tyX2_ok hown (hU _ uG_X3_23) (hU _ uM_X2) (hU _ uN_X2) hK hP hD hS hA rfl dfX2 (Nat.le_of_ble_eq_true rfl) (Nat.le_of_ble_eq_true rfl) dX3_init_27 (fun q3 H hP hD hS => ?_)
  refine W.widen (k := 28) (n := 501) (Nat.le_of_ble_eq_true rfl) (Nat.le_of_ble_eq_true rfl) ?_
  refine lv_dup hx hb dX3_init_30 rfl ?_
  refine lv_bipush (v := 8) hx hb dX3_init_31 rfl ?_
  refine z_kcallI hx hb hml hown hU hK hM (W0 := (a, .inr (3, [.ref q1, .ref ((zx q1 x2) 1), .null, .null, .int 0])) :: zWd cI (kStr cI) (zx q1 x2) zZ) (a1 := q3) (sh := (kRow cI 8)) (S1 := zZ) hP hD hS hA 1 uL_X3_25 uN_X2 uI_X2_init uC_X2_init rfl yd_X2_init rfl rfl ⟨(Nat.le_of_ble_eq_true rfl), (Nat.le_of_ble_eq_true rfl)⟩ (As := [.int 8]) (fun sz => kiX2 (v := 8) (n := 8) (by decide) (by decide) (by decide)) rfl hl.1 rfl (Nat.le_of_ble_eq_true rfl) dX3_init_33 ⟨(Nat.le_of_ble_eq_true rfl), (Nat.le_of_ble_eq_true rfl)⟩ (fun x4 H locs hP hD hS => ?_)
  refine W.widen (k := 29) (n := 509) (Nat.le_of_ble_eq_true rfl) (Nat.le_of_ble_eq_true rfl) ?_
  have hP : va_P (dC, dI) vwCl ((a, .inr (3, [.ref q1, .ref ((zx q1 x2) 1), .null, .null, .int 0])) :: (zWd cI (kStr cI) (zx q1 x2) zZ ++ zWd cI (kRow cI 8) (zx q3 x4) zZ)) H := hP
  have hD : va_D A ((a, .inr (3, [.ref q1, .ref ((zx q1 x2) 1), .null, .null, .int 0])) :: (zWd cI (kStr cI) (zx q1 x2) zZ ++ zWd cI (kRow cI 8) (zx q3 x4) zZ)) := hD
  refine va_putF (D := (dC, dI)) (ci := 3) (v := .ref q3) (C := RX3) (T := TX3) (N := 5) hx hb hU uU_X3 tyX3 tyX3_ok nmX3 hown hK hP hD hS 0 rfl rfl 2 (by decide) (hU _ uF_X3_28) (fun _ h9 => h9) rfl hin rfl (tyX3_ok 2 (by decide)) rfl rfl (Nat.le_of_ble_eq_true rfl) dX3_init_36 (fun H locs hP hD hS => ?_)
  have hP : va_P (dC, dI) vwCl ((a, .inr (3, [.ref q1, .ref ((zx q1 x2) 1), .ref q3, .null, .int 0])) :: (zWd cI (kStr cI) (zx q1 x2) zZ ++ zWd cI (kRow cI 8) (zx q3 x4) zZ)) H := hP
  have hD : va_D A ((a, .inr (3, [.ref q1, .ref ((zx q1 x2) 1), .ref q3, .null, .int 0])) :: (zWd cI (kStr cI) (zx q1 x2) zZ ++ zWd cI (kRow cI 8) (zx q3 x4) zZ)) := hD
  refine lv_aload_n hx hb dX3_init_39 rfl (lv_at hl 0 rfl) ?_
  refine va_new (ci := 2) (fs := [.null]) (C := RX2) (T := TX2) (N := 1) hx hb hU uU_X2 tyX2 tyX2_ok hown (hU _ uG_X3_23) (hU _ uM_X2) (hU _ uN_X2) hK hP hD hS hA rfl dfX2 (Nat.le_of_ble_eq_true rfl) (Nat.le_of_ble_eq_true rfl) dX3_init_40 (fun q5 H hP hD hS => ?_)
  refine W.widen (k := 30) (n := 510) (Nat.le_of_ble_eq_true rfl) (Nat.le_of_ble_eq_true rfl) ?_
  refine lv_dup hx hb dX3_init_43 rfl ?_
  refine lv_bipush (v := 79) hx hb dX3_init_44 rfl ?_
  refine z_kcallI hx hb hml hown hU hK hM (W0 := (a, .inr (3, [.ref q1, .ref ((zx q1 x2) 1), .ref q3, .null, .int 0])) :: (zWd cI (kStr cI) (zx q1 x2) zZ ++ zWd cI (kRow cI 8) (zx q3 x4) zZ)) (a1 := q5) (sh := (kRow cI 79)) (S1 := zZ) hP hD hS hA 1 uL_X3_25 uN_X2 uI_X2_init uC_X2_init rfl yd_X2_init rfl rfl ⟨(Nat.le_of_ble_eq_true rfl), (Nat.le_of_ble_eq_true rfl)⟩ (As := [.int 79]) (fun sz => kiX2 (v := 79) (n := 79) (by decide) (by decide) (by decide)) rfl hl.1 rfl (Nat.le_of_ble_eq_true rfl) dX3_init_46 ⟨(Nat.le_of_ble_eq_true rfl), (Nat.le_of_ble_eq_true rfl)⟩ (fun x6 H locs hP hD hS => ?_)
  refine W.widen (k := 31) (n := 589) (Nat.le_of_ble_eq_true rfl) (Nat.le_of_ble_eq_true rfl) ?_
  have hP : va_P (dC, dI) vwCl ((a, .inr (3, [.ref q1, .ref ((zx q1 x2) 1), .ref q3, .null, .int 0])) :: ((zWd cI (kStr cI) (zx q1 x2) zZ ++ zWd cI (kRow cI 8) (zx q3 x4) zZ) ++ zWd cI (kRow cI 79) (zx q5 x6) zZ)) H := hP
  have hD : va_D A ((a, .inr (3, [.ref q1, .ref ((zx q1 x2) 1), .ref q3, .null, .int 0])) :: ((zWd cI (kStr cI) (zx q1 x2) zZ ++ zWd cI (kRow cI 8) (zx q3 x4) zZ) ++ zWd cI (kRow cI 79) (zx q5 x6) zZ)) := hD
  refine va_putF (D := (dC, dI)) (ci := 3) (v := .ref q5) (C := RX3) (T := TX3) (N := 5) hx hb hU uU_X3 tyX3 tyX3_ok nmX3 hown hK hP hD hS 0 rfl rfl 3 (by decide) (hU _ uF_X3_32) (fun _ h9 => h9) rfl hin rfl (tyX3_ok 3 (by decide)) rfl rfl (Nat.le_of_ble_eq_true rfl) dX3_init_49 (fun H locs hP hD hS => ?_)
  have hP : va_P (dC, dI) vwCl ((a, .inr (3, [.ref q1, .ref ((zx q1 x2) 1), .ref q3, .ref q5, .int 0])) :: ((zWd cI (kStr cI) (zx q1 x2) zZ ++ zWd cI (kRow cI 8) (zx q3 x4) zZ) ++ zWd cI (kRow cI 79) (zx q5 x6) zZ)) H := hP
  have hD : va_D A ((a, .inr (3, [.ref q1, .ref ((zx q1 x2) 1), .ref q3, .ref q5, .int 0])) :: ((zWd cI (kStr cI) (zx q1 x2) zZ ++ zWd cI (kRow cI 8) (zx q3 x4) zZ) ++ zWd cI (kRow cI 79) (zx q5 x6) zZ)) := hD
  exact z_kret hx hb hlocks hP hD hS hQ hAe hr dX3_init_52 (fun k => if k = 0 then a else if k < 28 then (zx q1 x2) (k - 1) else if k < 30 then (zx q3 x4) (k - 28) else (zx q5 x6) (k - 30)) rfl rfl
abbrev rmX8_init : Room := { frames := 1, cells := 8, slots := 1016, locals := 29 }
theorem yd_X8_init : yX8_init.cls ≠ "java/lang/invoke/MethodHandle" ∧ yX8_init.cls ≠ "java/lang/invoke/VarHandle" ∧ (parseMethodDescriptor yX8_init.desc).map (fun d => d.parameters.length) = some 0 := by decide +kernel
set_option maxRecDepth 100000 in
set_option maxHeartbeats 4000000 in
theorem kiX8 {l : Launch} {dC : Nat → ClassId} {dI : Nat → Nat → Nat} {cI : ClassId × ClassId} {a sz : Nat} : zCk l dC dI cI yX8_init (Cond.code yX8_init cX8_init 1 none :: zU) rmX8_init [.ref a] a 8 [.int 0, .null, .null, .int 0, .int 0, .int 0, .null, .null, .int 0, .int 0, .int 0, .int 0, .int 0, .long 0, .long 0, .long 0, .long 0, .int 0, .null, .null, .null, .null] sz (kMod cI) zZ 8 1016 := by
  refine zMetK (lv := [(0, .ref a)]) (by decide) rfl (Nat.le_of_ble_eq_true rfl) rfl ?_
  intro p e s m args below meth c Q A hx hb hml hr hU hown hlocks hin hK hM hP hD hS hA hAe ls hl hQ
  replace hown : s.vm.findClass RX8 = some m.cls := hown
  refine lv_aload_n hx hb dX8_init_0 rfl (lv_at hl 0 rfl) ?_
  refine z_kobj hx hb hown hml hl.1 hU uL_X8_1 dX8_init_1 (Nat.le_of_ble_eq_true rfl) (Nat.le_of_ble_eq_true rfl) ?_
  refine lv_aload_n hx hb dX8_init_4 rfl (lv_at hl 0 rfl) ?_
  refine lv_bipush (v := 48) hx hb dX8_init_5 rfl ?_
  refine z_karr hx hb hU hK hP hD hS hA (n := 48) (by decide) (by decide) (by decide) (Nat.le_of_ble_eq_true rfl) (Nat.le_of_ble_eq_true rfl) dX8_init_7 (fun q1 H hP hD hS => ?_)
  refine W.widen (k := 1) (n := 48) (Nat.le_of_ble_eq_true rfl) (Nat.le_of_ble_eq_true rfl) ?_
  have hP : va_P (dC, dI) vwCl ((a, .inr (8, [.int 0, .null, .null, .int 0, .int 0, .int 0, .null, .null, .int 0, .int 0, .int 0, .int 0, .int 0, .long 0, .long 0, .long 0, .long 0, .int 0, .null, .null, .null, .null])) :: [(q1, .inl (cI.1, 48, .inl (fun _ => 0)))]) H := hP
  have hD : va_D A ((a, .inr (8, [.int 0, .null, .null, .int 0, .int 0, .int 0, .null, .null, .int 0, .int 0, .int 0, .int 0, .int 0, .long 0, .long 0, .long 0, .long 0, .int 0, .null, .null, .null, .null])) :: [(q1, .inl (cI.1, 48, .inl (fun _ => 0)))]) := hD
  refine va_putF (D := (dC, dI)) (ci := 8) (v := .ref q1) (C := RX8) (T := TX8) (N := 22) hx hb hU uU_X8 tyX8 tyX8_ok nmX8 hown hK hP hD hS 0 rfl rfl 1 (by decide) (hU _ uF_X8_7) (fun _ h9 => h9) rfl hin rfl (tyX8_ok 1 (by decide)) rfl rfl (Nat.le_of_ble_eq_true rfl) dX8_init_9 (fun H locs hP hD hS => ?_)
  have hP : va_P (dC, dI) vwCl ((a, .inr (8, [.int 0, .ref q1, .null, .int 0, .int 0, .int 0, .null, .null, .int 0, .int 0, .int 0, .int 0, .int 0, .long 0, .long 0, .long 0, .long 0, .int 0, .null, .null, .null, .null])) :: [(q1, .inl (cI.1, 48, .inl (fun _ => 0)))]) H := hP
  have hD : va_D A ((a, .inr (8, [.int 0, .ref q1, .null, .int 0, .int 0, .int 0, .null, .null, .int 0, .int 0, .int 0, .int 0, .int 0, .long 0, .long 0, .long 0, .long 0, .int 0, .null, .null, .null, .null])) :: [(q1, .inl (cI.1, 48, .inl (fun _ => 0)))]) := hD
  refine lv_aload_n hx hb dX8_init_12 rfl (lv_at hl 0 rfl) ?_
  refine lv_sipush (v := 384) hx hb dX8_init_13 rfl ?_
  refine z_karr hx hb hU hK hP hD hS hA (n := 384) (by decide) (by decide) (by decide) (Nat.le_of_ble_eq_true rfl) (Nat.le_of_ble_eq_true rfl) dX8_init_16 (fun q2 H hP hD hS => ?_)
  refine W.widen (k := 2) (n := 432) (Nat.le_of_ble_eq_true rfl) (Nat.le_of_ble_eq_true rfl) ?_
  have hP : va_P (dC, dI) vwCl ((a, .inr (8, [.int 0, .ref q1, .null, .int 0, .int 0, .int 0, .null, .null, .int 0, .int 0, .int 0, .int 0, .int 0, .long 0, .long 0, .long 0, .long 0, .int 0, .null, .null, .null, .null])) :: ([(q1, .inl (cI.1, 48, .inl (fun _ => 0)))] ++ [(q2, .inl (cI.1, 384, .inl (fun _ => 0)))])) H := hP
  have hD : va_D A ((a, .inr (8, [.int 0, .ref q1, .null, .int 0, .int 0, .int 0, .null, .null, .int 0, .int 0, .int 0, .int 0, .int 0, .long 0, .long 0, .long 0, .long 0, .int 0, .null, .null, .null, .null])) :: ([(q1, .inl (cI.1, 48, .inl (fun _ => 0)))] ++ [(q2, .inl (cI.1, 384, .inl (fun _ => 0)))])) := hD
  refine va_putF (D := (dC, dI)) (ci := 8) (v := .ref q2) (C := RX8) (T := TX8) (N := 22) hx hb hU uU_X8 tyX8 tyX8_ok nmX8 hown hK hP hD hS 0 rfl rfl 2 (by decide) (hU _ uF_X8_13) (fun _ h9 => h9) rfl hin rfl (tyX8_ok 2 (by decide)) rfl rfl (Nat.le_of_ble_eq_true rfl) dX8_init_18 (fun H locs hP hD hS => ?_)
  have hP : va_P (dC, dI) vwCl ((a, .inr (8, [.int 0, .ref q1, .ref q2, .int 0, .int 0, .int 0, .null, .null, .int 0, .int 0, .int 0, .int 0, .int 0, .long 0, .long 0, .long 0, .long 0, .int 0, .null, .null, .null, .null])) :: ([(q1, .inl (cI.1, 48, .inl (fun _ => 0)))] ++ [(q2, .inl (cI.1, 384, .inl (fun _ => 0)))])) H := hP
  have hD : va_D A ((a, .inr (8, [.int 0, .ref q1, .ref q2, .int 0, .int 0, .int 0, .null, .null, .int 0, .int 0, .int 0, .int 0, .int 0, .long 0, .long 0, .long 0, .long 0, .int 0, .null, .null, .null, .null])) :: ([(q1, .inl (cI.1, 48, .inl (fun _ => 0)))] ++ [(q2, .inl (cI.1, 384, .inl (fun _ => 0)))])) := hD
  refine lv_aload_n hx hb dX8_init_21 rfl (lv_at hl 0 rfl) ?_
  refine lv_bipush (v := 8) hx hb dX8_init_22 rfl ?_
  refine z_karr hx hb hU hK hP hD hS hA (n := 8) (by decide) (by decide) (by decide) (Nat.le_of_ble_eq_true rfl) (Nat.le_of_ble_eq_true rfl) dX8_init_24 (fun q3 H hP hD hS => ?_)
  refine W.widen (k := 3) (n := 440) (Nat.le_of_ble_eq_true rfl) (Nat.le_of_ble_eq_true rfl) ?_
  have hP : va_P (dC, dI) vwCl ((a, .inr (8, [.int 0, .ref q1, .ref q2, .int 0, .int 0, .int 0, .null, .null, .int 0, .int 0, .int 0, .int 0, .int 0, .long 0, .long 0, .long 0, .long 0, .int 0, .null, .null, .null, .null])) :: (([(q1, .inl (cI.1, 48, .inl (fun _ => 0)))] ++ [(q2, .inl (cI.1, 384, .inl (fun _ => 0)))]) ++ [(q3, .inl (cI.1, 8, .inl (fun _ => 0)))])) H := hP
  have hD : va_D A ((a, .inr (8, [.int 0, .ref q1, .ref q2, .int 0, .int 0, .int 0, .null, .null, .int 0, .int 0, .int 0, .int 0, .int 0, .long 0, .long 0, .long 0, .long 0, .int 0, .null, .null, .null, .null])) :: (([(q1, .inl (cI.1, 48, .inl (fun _ => 0)))] ++ [(q2, .inl (cI.1, 384, .inl (fun _ => 0)))]) ++ [(q3, .inl (cI.1, 8, .inl (fun _ => 0)))])) := hD
  refine va_putF (D := (dC, dI)) (ci := 8) (v := .ref q3) (C := RX8) (T := TX8) (N := 22) hx hb hU uU_X8 tyX8 tyX8_ok nmX8 hown hK hP hD hS 0 rfl rfl 6 (by decide) (hU _ uF_X8_16) (fun _ h9 => h9) rfl hin rfl (tyX8_ok 6 (by decide)) rfl rfl (Nat.le_of_ble_eq_true rfl) dX8_init_26 (fun H locs hP hD hS => ?_)
  have hP : va_P (dC, dI) vwCl ((a, .inr (8, [.int 0, .ref q1, .ref q2, .int 0, .int 0, .int 0, .ref q3, .null, .int 0, .int 0, .int 0, .int 0, .int 0, .long 0, .long 0, .long 0, .long 0, .int 0, .null, .null, .null, .null])) :: (([(q1, .inl (cI.1, 48, .inl (fun _ => 0)))] ++ [(q2, .inl (cI.1, 384, .inl (fun _ => 0)))]) ++ [(q3, .inl (cI.1, 8, .inl (fun _ => 0)))])) H := hP
  have hD : va_D A ((a, .inr (8, [.int 0, .ref q1, .ref q2, .int 0, .int 0, .int 0, .ref q3, .null, .int 0, .int 0, .int 0, .int 0, .int 0, .long 0, .long 0, .long 0, .long 0, .int 0, .null, .null, .null, .null])) :: (([(q1, .inl (cI.1, 48, .inl (fun _ => 0)))] ++ [(q2, .inl (cI.1, 384, .inl (fun _ => 0)))]) ++ [(q3, .inl (cI.1, 8, .inl (fun _ => 0)))])) := hD
  refine lv_aload_n hx hb dX8_init_29 rfl (lv_at hl 0 rfl) ?_
  refine lv_bipush (v := 8) hx hb dX8_init_30 rfl ?_
  refine z_karr hx hb hU hK hP hD hS hA (n := 8) (by decide) (by decide) (by decide) (Nat.le_of_ble_eq_true rfl) (Nat.le_of_ble_eq_true rfl) dX8_init_32 (fun q4 H hP hD hS => ?_)
  refine W.widen (k := 4) (n := 448) (Nat.le_of_ble_eq_true rfl) (Nat.le_of_ble_eq_true rfl) ?_
  have hP : va_P (dC, dI) vwCl ((a, .inr (8, [.int 0, .ref q1, .ref q2, .int 0, .int 0, .int 0, .ref q3, .null, .int 0, .int 0, .int 0, .int 0, .int 0, .long 0, .long 0, .long 0, .long 0, .int 0, .null, .null, .null, .null])) :: ((([(q1, .inl (cI.1, 48, .inl (fun _ => 0)))] ++ [(q2, .inl (cI.1, 384, .inl (fun _ => 0)))]) ++ [(q3, .inl (cI.1, 8, .inl (fun _ => 0)))]) ++ [(q4, .inl (cI.1, 8, .inl (fun _ => 0)))])) H := hP
  have hD : va_D A ((a, .inr (8, [.int 0, .ref q1, .ref q2, .int 0, .int 0, .int 0, .ref q3, .null, .int 0, .int 0, .int 0, .int 0, .int 0, .long 0, .long 0, .long 0, .long 0, .int 0, .null, .null, .null, .null])) :: ((([(q1, .inl (cI.1, 48, .inl (fun _ => 0)))] ++ [(q2, .inl (cI.1, 384, .inl (fun _ => 0)))]) ++ [(q3, .inl (cI.1, 8, .inl (fun _ => 0)))]) ++ [(q4, .inl (cI.1, 8, .inl (fun _ => 0)))])) := hD
  refine va_putF (D := (dC, dI)) (ci := 8) (v := .ref q4) (C := RX8) (T := TX8) (N := 22) hx hb hU uU_X8 tyX8 tyX8_ok nmX8 hown hK hP hD hS 0 rfl rfl 7 (by decide) (hU _ uF_X8_19) (fun _ h9 => h9) rfl hin rfl (tyX8_ok 7 (by decide)) rfl rfl (Nat.le_of_ble_eq_true rfl) dX8_init_34 (fun H locs hP hD hS => ?_)
  have hP : va_P (dC, dI) vwCl ((a, .inr (8, [.int 0, .ref q1, .ref q2, .int 0, .int 0, .int 0, .ref q3, .ref q4, .int 0, .int 0, .int 0, .int 0, .int 0, .long 0, .long 0, .long 0, .long 0, .int 0, .null, .null, .null, .null])) :: ((([(q1, .inl (cI.1, 48, .inl (fun _ => 0)))] ++ [(q2, .inl (cI.1, 384, .inl (fun _ => 0)))]) ++ [(q3, .inl (cI.1, 8, .inl (fun _ => 0)))]) ++ [(q4, .inl (cI.1, 8, .inl (fun _ => 0)))])) H := hP
  have hD : va_D A ((a, .inr (8, [.int 0, .ref q1, .ref q2, .int 0, .int 0, .int 0, .ref q3, .ref q4, .int 0, .int 0, .int 0, .int 0, .int 0, .long 0, .long 0, .long 0, .long 0, .int 0, .null, .null, .null, .null])) :: ((([(q1, .inl (cI.1, 48, .inl (fun _ => 0)))] ++ [(q2, .inl (cI.1, 384, .inl (fun _ => 0)))]) ++ [(q3, .inl (cI.1, 8, .inl (fun _ => 0)))]) ++ [(q4, .inl (cI.1, 8, .inl (fun _ => 0)))])) := hD
  refine lv_aload_n hx hb dX8_init_37 rfl (lv_at hl 0 rfl) ?_
  refine lv_bipush (v := 48) hx hb dX8_init_38 rfl ?_
  refine z_karr hx hb hU hK hP hD hS hA (n := 48) (by decide) (by decide) (by decide) (Nat.le_of_ble_eq_true rfl) (Nat.le_of_ble_eq_true rfl) dX8_init_40 (fun q5 H hP hD hS => ?_)
  refine W.widen (k := 5) (n := 496) (Nat.le_of_ble_eq_true rfl) (Nat.le_of_ble_eq_true rfl) ?_
  have hP : va_P (dC, dI) vwCl ((a, .inr (8, [.int 0, .ref q1, .ref q2, .int 0, .int 0, .int 0, .ref q3, .ref q4, .int 0, .int 0, .int 0, .int 0, .int 0, .long 0, .long 0, .long 0, .long 0, .int 0, .null, .null, .null, .null])) :: (((([(q1, .inl (cI.1, 48, .inl (fun _ => 0)))] ++ [(q2, .inl (cI.1, 384, .inl (fun _ => 0)))]) ++ [(q3, .inl (cI.1, 8, .inl (fun _ => 0)))]) ++ [(q4, .inl (cI.1, 8, .inl (fun _ => 0)))]) ++ [(q5, .inl (cI.1, 48, .inl (fun _ => 0)))])) H := hP
  have hD : va_D A ((a, .inr (8, [.int 0, .ref q1, .ref q2, .int 0, .int 0, .int 0, .ref q3, .ref q4, .int 0, .int 0, .int 0, .int 0, .int 0, .long 0, .long 0, .long 0, .long 0, .int 0, .null, .null, .null, .null])) :: (((([(q1, .inl (cI.1, 48, .inl (fun _ => 0)))] ++ [(q2, .inl (cI.1, 384, .inl (fun _ => 0)))]) ++ [(q3, .inl (cI.1, 8, .inl (fun _ => 0)))]) ++ [(q4, .inl (cI.1, 8, .inl (fun _ => 0)))]) ++ [(q5, .inl (cI.1, 48, .inl (fun _ => 0)))])) := hD
  refine va_putF (D := (dC, dI)) (ci := 8) (v := .ref q5) (C := RX8) (T := TX8) (N := 22) hx hb hU uU_X8 tyX8 tyX8_ok nmX8 hown hK hP hD hS 0 rfl rfl 18 (by decide) (hU _ uF_X8_22) (fun _ h9 => h9) rfl hin rfl (tyX8_ok 18 (by decide)) rfl rfl (Nat.le_of_ble_eq_true rfl) dX8_init_42 (fun H locs hP hD hS => ?_)
  have hP : va_P (dC, dI) vwCl ((a, .inr (8, [.int 0, .ref q1, .ref q2, .int 0, .int 0, .int 0, .ref q3, .ref q4, .int 0, .int 0, .int 0, .int 0, .int 0, .long 0, .long 0, .long 0, .long 0, .int 0, .ref q5, .null, .null, .null])) :: (((([(q1, .inl (cI.1, 48, .inl (fun _ => 0)))] ++ [(q2, .inl (cI.1, 384, .inl (fun _ => 0)))]) ++ [(q3, .inl (cI.1, 8, .inl (fun _ => 0)))]) ++ [(q4, .inl (cI.1, 8, .inl (fun _ => 0)))]) ++ [(q5, .inl (cI.1, 48, .inl (fun _ => 0)))])) H := hP
  have hD : va_D A ((a, .inr (8, [.int 0, .ref q1, .ref q2, .int 0, .int 0, .int 0, .ref q3, .ref q4, .int 0, .int 0, .int 0, .int 0, .int 0, .long 0, .long 0, .long 0, .long 0, .int 0, .ref q5, .null, .null, .null])) :: (((([(q1, .inl (cI.1, 48, .inl (fun _ => 0)))] ++ [(q2, .inl (cI.1, 384, .inl (fun _ => 0)))]) ++ [(q3, .inl (cI.1, 8, .inl (fun _ => 0)))]) ++ [(q4, .inl (cI.1, 8, .inl (fun _ => 0)))]) ++ [(q5, .inl (cI.1, 48, .inl (fun _ => 0)))])) := hD
  refine lv_aload_n hx hb dX8_init_45 rfl (lv_at hl 0 rfl) ?_
  refine lv_bipush (v := 8) hx hb dX8_init_46 rfl ?_
  refine z_karr hx hb hU hK hP hD hS hA (n := 8) (by decide) (by decide) (by decide) (Nat.le_of_ble_eq_true rfl) (Nat.le_of_ble_eq_true rfl) dX8_init_48 (fun q6 H hP hD hS => ?_)
  refine W.widen (k := 6) (n := 504) (Nat.le_of_ble_eq_true rfl) (Nat.le_of_ble_eq_true rfl) ?_
  have hP : va_P (dC, dI) vwCl ((a, .inr (8, [.int 0, .ref q1, .ref q2, .int 0, .int 0, .int 0, .ref q3, .ref q4, .int 0, .int 0, .int 0, .int 0, .int 0, .long 0, .long 0, .long 0, .long 0, .int 0, .ref q5, .null, .null, .null])) :: ((((([(q1, .inl (cI.1, 48, .inl (fun _ => 0)))] ++ [(q2, .inl (cI.1, 384, .inl (fun _ => 0)))]) ++ [(q3, .inl (cI.1, 8, .inl (fun _ => 0)))]) ++ [(q4, .inl (cI.1, 8, .inl (fun _ => 0)))]) ++ [(q5, .inl (cI.1, 48, .inl (fun _ => 0)))]) ++ [(q6, .inl (cI.1, 8, .inl (fun _ => 0)))])) H := hP
  have hD : va_D A ((a, .inr (8, [.int 0, .ref q1, .ref q2, .int 0, .int 0, .int 0, .ref q3, .ref q4, .int 0, .int 0, .int 0, .int 0, .int 0, .long 0, .long 0, .long 0, .long 0, .int 0, .ref q5, .null, .null, .null])) :: ((((([(q1, .inl (cI.1, 48, .inl (fun _ => 0)))] ++ [(q2, .inl (cI.1, 384, .inl (fun _ => 0)))]) ++ [(q3, .inl (cI.1, 8, .inl (fun _ => 0)))]) ++ [(q4, .inl (cI.1, 8, .inl (fun _ => 0)))]) ++ [(q5, .inl (cI.1, 48, .inl (fun _ => 0)))]) ++ [(q6, .inl (cI.1, 8, .inl (fun _ => 0)))])) := hD
  refine va_putF (D := (dC, dI)) (ci := 8) (v := .ref q6) (C := RX8) (T := TX8) (N := 22) hx hb hU uU_X8 tyX8 tyX8_ok nmX8 hown hK hP hD hS 0 rfl rfl 19 (by decide) (hU _ uF_X8_25) (fun _ h9 => h9) rfl hin rfl (tyX8_ok 19 (by decide)) rfl rfl (Nat.le_of_ble_eq_true rfl) dX8_init_50 (fun H locs hP hD hS => ?_)
  have hP : va_P (dC, dI) vwCl ((a, .inr (8, [.int 0, .ref q1, .ref q2, .int 0, .int 0, .int 0, .ref q3, .ref q4, .int 0, .int 0, .int 0, .int 0, .int 0, .long 0, .long 0, .long 0, .long 0, .int 0, .ref q5, .ref q6, .null, .null])) :: ((((([(q1, .inl (cI.1, 48, .inl (fun _ => 0)))] ++ [(q2, .inl (cI.1, 384, .inl (fun _ => 0)))]) ++ [(q3, .inl (cI.1, 8, .inl (fun _ => 0)))]) ++ [(q4, .inl (cI.1, 8, .inl (fun _ => 0)))]) ++ [(q5, .inl (cI.1, 48, .inl (fun _ => 0)))]) ++ [(q6, .inl (cI.1, 8, .inl (fun _ => 0)))])) H := hP
  have hD : va_D A ((a, .inr (8, [.int 0, .ref q1, .ref q2, .int 0, .int 0, .int 0, .ref q3, .ref q4, .int 0, .int 0, .int 0, .int 0, .int 0, .long 0, .long 0, .long 0, .long 0, .int 0, .ref q5, .ref q6, .null, .null])) :: ((((([(q1, .inl (cI.1, 48, .inl (fun _ => 0)))] ++ [(q2, .inl (cI.1, 384, .inl (fun _ => 0)))]) ++ [(q3, .inl (cI.1, 8, .inl (fun _ => 0)))]) ++ [(q4, .inl (cI.1, 8, .inl (fun _ => 0)))]) ++ [(q5, .inl (cI.1, 48, .inl (fun _ => 0)))]) ++ [(q6, .inl (cI.1, 8, .inl (fun _ => 0)))])) := hD
  refine lv_aload_n hx hb dX8_init_53 rfl (lv_at hl 0 rfl) ?_
  refine lv_sipush (v := 256) hx hb dX8_init_54 rfl ?_
  refine z_karr hx hb hU hK hP hD hS hA (n := 256) (by decide) (by decide) (by decide) (Nat.le_of_ble_eq_true rfl) (Nat.le_of_ble_eq_true rfl) dX8_init_57 (fun q7 H hP hD hS => ?_)
  refine W.widen (k := 7) (n := 760) (Nat.le_of_ble_eq_true rfl) (Nat.le_of_ble_eq_true rfl) ?_
  have hP : va_P (dC, dI) vwCl ((a, .inr (8, [.int 0, .ref q1, .ref q2, .int 0, .int 0, .int 0, .ref q3, .ref q4, .int 0, .int 0, .int 0, .int 0, .int 0, .long 0, .long 0, .long 0, .long 0, .int 0, .ref q5, .ref q6, .null, .null])) :: (((((([(q1, .inl (cI.1, 48, .inl (fun _ => 0)))] ++ [(q2, .inl (cI.1, 384, .inl (fun _ => 0)))]) ++ [(q3, .inl (cI.1, 8, .inl (fun _ => 0)))]) ++ [(q4, .inl (cI.1, 8, .inl (fun _ => 0)))]) ++ [(q5, .inl (cI.1, 48, .inl (fun _ => 0)))]) ++ [(q6, .inl (cI.1, 8, .inl (fun _ => 0)))]) ++ [(q7, .inl (cI.1, 256, .inl (fun _ => 0)))])) H := hP
  have hD : va_D A ((a, .inr (8, [.int 0, .ref q1, .ref q2, .int 0, .int 0, .int 0, .ref q3, .ref q4, .int 0, .int 0, .int 0, .int 0, .int 0, .long 0, .long 0, .long 0, .long 0, .int 0, .ref q5, .ref q6, .null, .null])) :: (((((([(q1, .inl (cI.1, 48, .inl (fun _ => 0)))] ++ [(q2, .inl (cI.1, 384, .inl (fun _ => 0)))]) ++ [(q3, .inl (cI.1, 8, .inl (fun _ => 0)))]) ++ [(q4, .inl (cI.1, 8, .inl (fun _ => 0)))]) ++ [(q5, .inl (cI.1, 48, .inl (fun _ => 0)))]) ++ [(q6, .inl (cI.1, 8, .inl (fun _ => 0)))]) ++ [(q7, .inl (cI.1, 256, .inl (fun _ => 0)))])) := hD
  refine va_putF (D := (dC, dI)) (ci := 8) (v := .ref q7) (C := RX8) (T := TX8) (N := 22) hx hb hU uU_X8 tyX8 tyX8_ok nmX8 hown hK hP hD hS 0 rfl rfl 20 (by decide) (hU _ uF_X8_28) (fun _ h9 => h9) rfl hin rfl (tyX8_ok 20 (by decide)) rfl rfl (Nat.le_of_ble_eq_true rfl) dX8_init_59 (fun H locs hP hD hS => ?_)
  have hP : va_P (dC, dI) vwCl ((a, .inr (8, [.int 0, .ref q1, .ref q2, .int 0, .int 0, .int 0, .ref q3, .ref q4, .int 0, .int 0, .int 0, .int 0, .int 0, .long 0, .long 0, .long 0, .long 0, .int 0, .ref q5, .ref q6, .ref q7, .null])) :: (((((([(q1, .inl (cI.1, 48, .inl (fun _ => 0)))] ++ [(q2, .inl (cI.1, 384, .inl (fun _ => 0)))]) ++ [(q3, .inl (cI.1, 8, .inl (fun _ => 0)))]) ++ [(q4, .inl (cI.1, 8, .inl (fun _ => 0)))]) ++ [(q5, .inl (cI.1, 48, .inl (fun _ => 0)))]) ++ [(q6, .inl (cI.1, 8, .inl (fun _ => 0)))]) ++ [(q7, .inl (cI.1, 256, .inl (fun _ => 0)))])) H := hP
  have hD : va_D A ((a, .inr (8, [.int 0, .ref q1, .ref q2, .int 0, .int 0, .int 0, .ref q3, .ref q4, .int 0, .int 0, .int 0, .int 0, .int 0, .long 0, .long 0, .long 0, .long 0, .int 0, .ref q5, .ref q6, .ref q7, .null])) :: (((((([(q1, .inl (cI.1, 48, .inl (fun _ => 0)))] ++ [(q2, .inl (cI.1, 384, .inl (fun _ => 0)))]) ++ [(q3, .inl (cI.1, 8, .inl (fun _ => 0)))]) ++ [(q4, .inl (cI.1, 8, .inl (fun _ => 0)))]) ++ [(q5, .inl (cI.1, 48, .inl (fun _ => 0)))]) ++ [(q6, .inl (cI.1, 8, .inl (fun _ => 0)))]) ++ [(q7, .inl (cI.1, 256, .inl (fun _ => 0)))])) := hD
  refine lv_aload_n hx hb dX8_init_62 rfl (lv_at hl 0 rfl) ?_
  refine lv_sipush (v := 256) hx hb dX8_init_63 rfl ?_
  refine z_karr hx hb hU hK hP hD hS hA (n := 256) (by decide) (by decide) (by decide) (Nat.le_of_ble_eq_true rfl) (Nat.le_of_ble_eq_true rfl) dX8_init_66 (fun q8 H hP hD hS => ?_)
  refine W.widen (k := 8) (n := 1016) (Nat.le_of_ble_eq_true rfl) (Nat.le_of_ble_eq_true rfl) ?_
  have hP : va_P (dC, dI) vwCl ((a, .inr (8, [.int 0, .ref q1, .ref q2, .int 0, .int 0, .int 0, .ref q3, .ref q4, .int 0, .int 0, .int 0, .int 0, .int 0, .long 0, .long 0, .long 0, .long 0, .int 0, .ref q5, .ref q6, .ref q7, .null])) :: ((((((([(q1, .inl (cI.1, 48, .inl (fun _ => 0)))] ++ [(q2, .inl (cI.1, 384, .inl (fun _ => 0)))]) ++ [(q3, .inl (cI.1, 8, .inl (fun _ => 0)))]) ++ [(q4, .inl (cI.1, 8, .inl (fun _ => 0)))]) ++ [(q5, .inl (cI.1, 48, .inl (fun _ => 0)))]) ++ [(q6, .inl (cI.1, 8, .inl (fun _ => 0)))]) ++ [(q7, .inl (cI.1, 256, .inl (fun _ => 0)))]) ++ [(q8, .inl (cI.1, 256, .inl (fun _ => 0)))])) H := hP
  have hD : va_D A ((a, .inr (8, [.int 0, .ref q1, .ref q2, .int 0, .int 0, .int 0, .ref q3, .ref q4, .int 0, .int 0, .int 0, .int 0, .int 0, .long 0, .long 0, .long 0, .long 0, .int 0, .ref q5, .ref q6, .ref q7, .null])) :: ((((((([(q1, .inl (cI.1, 48, .inl (fun _ => 0)))] ++ [(q2, .inl (cI.1, 384, .inl (fun _ => 0)))]) ++ [(q3, .inl (cI.1, 8, .inl (fun _ => 0)))]) ++ [(q4, .inl (cI.1, 8, .inl (fun _ => 0)))]) ++ [(q5, .inl (cI.1, 48, .inl (fun _ => 0)))]) ++ [(q6, .inl (cI.1, 8, .inl (fun _ => 0)))]) ++ [(q7, .inl (cI.1, 256, .inl (fun _ => 0)))]) ++ [(q8, .inl (cI.1, 256, .inl (fun _ => 0)))])) := hD
  refine va_putF (D := (dC, dI)) (ci := 8) (v := .ref q8) (C := RX8) (T := TX8) (N := 22) hx hb hU uU_X8 tyX8 tyX8_ok nmX8 hown hK hP hD hS 0 rfl rfl 21 (by decide) (hU _ uF_X8_31) (fun _ h9 => h9) rfl hin rfl (tyX8_ok 21 (by decide)) rfl rfl (Nat.le_of_ble_eq_true rfl) dX8_init_68 (fun H locs hP hD hS => ?_)
  have hP : va_P (dC, dI) vwCl ((a, .inr (8, [.int 0, .ref q1, .ref q2, .int 0, .int 0, .int 0, .ref q3, .ref q4, .int 0, .int 0, .int 0, .int 0, .int 0, .long 0, .long 0, .long 0, .long 0, .int 0, .ref q5, .ref q6, .ref q7, .ref q8])) :: ((((((([(q1, .inl (cI.1, 48, .inl (fun _ => 0)))] ++ [(q2, .inl (cI.1, 384, .inl (fun _ => 0)))]) ++ [(q3, .inl (cI.1, 8, .inl (fun _ => 0)))]) ++ [(q4, .inl (cI.1, 8, .inl (fun _ => 0)))]) ++ [(q5, .inl (cI.1, 48, .inl (fun _ => 0)))]) ++ [(q6, .inl (cI.1, 8, .inl (fun _ => 0)))]) ++ [(q7, .inl (cI.1, 256, .inl (fun _ => 0)))]) ++ [(q8, .inl (cI.1, 256, .inl (fun _ => 0)))])) H := hP
  have hD : va_D A ((a, .inr (8, [.int 0, .ref q1, .ref q2, .int 0, .int 0, .int 0, .ref q3, .ref q4, .int 0, .int 0, .int 0, .int 0, .int 0, .long 0, .long 0, .long 0, .long 0, .int 0, .ref q5, .ref q6, .ref q7, .ref q8])) :: ((((((([(q1, .inl (cI.1, 48, .inl (fun _ => 0)))] ++ [(q2, .inl (cI.1, 384, .inl (fun _ => 0)))]) ++ [(q3, .inl (cI.1, 8, .inl (fun _ => 0)))]) ++ [(q4, .inl (cI.1, 8, .inl (fun _ => 0)))]) ++ [(q5, .inl (cI.1, 48, .inl (fun _ => 0)))]) ++ [(q6, .inl (cI.1, 8, .inl (fun _ => 0)))]) ++ [(q7, .inl (cI.1, 256, .inl (fun _ => 0)))]) ++ [(q8, .inl (cI.1, 256, .inl (fun _ => 0)))])) := hD
  exact z_kret hx hb hlocks hP hD hS hQ hAe hr dX8_init_71 (fun k => if k = 0 then a else if k < 2 then q1 else if k < 3 then q2 else if k < 4 then q3 else if k < 5 then q4 else if k < 6 then q5 else if k < 7 then q6 else if k < 8 then q7 else q8) rfl rfl
