theorem z_law_ci {s : State} {args : Array Value} (hts : ∀ w ∈ lw_tbl, w.before args s = true) : ∃ cI : ClassId × ClassId, ∀ (k : Nat) (q : ClassId × FieldType), (zty cI)[k]? = some q → ArrOfT s q.1 q.2 ∧ va_RA s q.1 q.2 := by
  obtain ⟨cA, kA, comp, h1, h2, h3⟩ := Cond.arrayClass_spec (hts (.arrayClass .int) ((List.mem_filter.mp uA_int).1))
  obtain ⟨comp2, cB, kB, g1, _, g3, g4, g5⟩ := Cond.arrayOver_spec (hts (.arrayOver (.object RX6)) (List.mem_of_getElem? (i := 157) (by decide +kernel)))
  refine ⟨(cA, cB), fun k q hq => ?_⟩
  match k, hq with
  | 0, hq => cases hq; exact ⟨fun n z => ⟨(fun k h => by cases h), kA, h2, comp, h3⟩, h1⟩
  | 1, hq => cases hq; exact ⟨fun n z => ⟨(fun k h => by cases h), kB, g3, comp2, g4⟩, kB, comp2, g3, g4, g1, g5⟩
  | k + 2, hq => simp [zty] at hq
theorem z_law_zM {s : State} {args : Array Value} (hts : ∀ w ∈ lw_tbl, w.before args s = true) : zM s := by
  exact ⟨⟨va_Nw.of rfl (hts (.methodLinkNest RX6 75 yX7_offsetOf RX7) (List.mem_of_getElem? (i := 413) (by decide +kernel))), va_Nw.of rfl (hts (.methodLinkNest RX3 65 yX7_rowsOf RX7) (List.mem_of_getElem? (i := 637) (by decide +kernel)))⟩, va_Nw.of rfl (hts (.methodLinkNest RX7 11 yX6_init RX7) (List.mem_of_getElem? (i := 78) (by decide +kernel))), va_Nw.of rfl (hts (.methodLinkNest RX0 17 yX6_init RX7) (List.mem_of_getElem? (i := 158) (by decide +kernel))), va_Nw.of rfl (hts (.methodLinkNest RX7 25 yX3_init RX7) (List.mem_of_getElem? (i := 171) (by decide +kernel))), va_Nw.of rfl (hts (.methodLinkNest RX3 11 yX5_init RX7) (List.mem_of_getElem? (i := 177) (by decide +kernel))), va_Nw.of rfl (hts (.methodLinkNest RX5 11 yX6_init RX7) (List.mem_of_getElem? (i := 182) (by decide +kernel))), va_Nw.of rfl (hts (.methodLinkNest RX5 35 yX4_init RX7) (List.mem_of_getElem? (i := 187) (by decide +kernel))), va_Nw.of rfl (hts (.methodLinkNest RX4 31 yX1_init RX7) (List.mem_of_getElem? (i := 195) (by decide +kernel))), va_Nw.of rfl (hts (.methodLinkNest RX5 42 yX1_init RX7) (List.mem_of_getElem? (i := 239) (by decide +kernel))), va_Nw.of rfl (hts (.methodLinkNest RX7 45 yX1_init RX7) (List.mem_of_getElem? (i := 286) (by decide +kernel))), va_AO.of (A := args) (hts (.arrayOver (.object RX6)) (List.mem_of_getElem? (i := 157) (by decide +kernel)))⟩
set_option maxRecDepth 100000 in
set_option maxHeartbeats 8000000 in
/-- THE LAW, from its entry, over an invariant of the pure functions -/
theorem law_start {p : Program} {e : Env} {s : State} {m : MethodId} {below : List Frame} {meth : Method} {c : Code} (l : Launch) {b L : Nat} {xs : Nat → Int32} (hL : L ≤ 3584) (C0 : lw_At p s m meth c b L xs) (Inv : zT → Prop) (hall : zK_all Inv) {S1 : zT} (hF : fX6_makeAnew 0 4 0 zZ = some S1) (hI0 : Inv (zLB S1)) : W p l e room_1 s m #[Value.ref b] below meth c s.heap [] 0 0 (lw_Z below #[Value.ref b] s) (entryFrame m ([Value.ref b] : List Value).toArray 4) := by
  obtain ⟨hx, hb, hr, hml, hown, hts, hX, hbl, hlocks, hgv⟩ := id C0
  have hU : ∀ w ∈ zU, w.before #[Value.ref b] s = true := fun w hw => hts w (List.mem_filter.mp hw).1
  replace hown : s.vm.findClass RL = some m.cls := hown
  have hA : ∀ q : Nat, s.heap.size ≤ q → (fun q : Nat => s.heap.size ≤ q) q := fun _ h => h
  have hM := z_law_zM hts
  obtain ⟨cI, hKa⟩ := z_law_ci hts
  obtain ⟨c0, iS0, hKn0⟩ := u_known (C := RX0) (T := TX0) (N := 3) (n := 3) hts (fun w h => (List.mem_filter.mp (uU_X0 w h)).1) (hU (.instantiable RX0 3) uM_X0)
  obtain ⟨c1, iS1, hKn1⟩ := u_known (C := RX1) (T := TX1) (N := 2) (n := 2) hts (fun w h => (List.mem_filter.mp (uU_X1 w h)).1) (hU (.instantiable RX1 2) uM_X1)
  obtain ⟨c2, iS2, hKn2⟩ := u_known (C := RX2) (T := TX2) (N := 1) (n := 1) hts (fun w h => (List.mem_filter.mp (uU_X2 w h)).1) (hU (.instantiable RX2 1) uM_X2)
  obtain ⟨c3, iS3, hKn3⟩ := u_known (C := RX3) (T := TX3) (N := 5) (n := 5) hts (fun w h => (List.mem_filter.mp (uU_X3 w h)).1) (hU (.instantiable RX3 5) uM_X3)
  obtain ⟨c4, iS4, hKn4⟩ := u_known (C := RX4) (T := TX4) (N := 9) (n := 9) hts (fun w h => (List.mem_filter.mp (uU_X4 w h)).1) (hU (.instantiable RX4 9) uM_X4)
  obtain ⟨c5, iS5, hKn5⟩ := u_known (C := RX5) (T := TX5) (N := 7) (n := 7) hts (fun w h => (List.mem_filter.mp (uU_X5 w h)).1) (hU (.instantiable RX5 7) uM_X5)
  obtain ⟨c6, iS6, hKn6⟩ := u_known (C := RX6) (T := TX6) (N := 10) (n := 10) hts (fun w h => (List.mem_filter.mp (uU_X6 w h)).1) (hU (.instantiable RX6 10) uM_X6)
  obtain ⟨c7, iS7, hKn7⟩ := u_known (C := RX7) (T := TX7) (N := 7) (n := 7) hts (fun w h => (List.mem_filter.mp (uU_X7 w h)).1) (hU (.instantiable RX7 7) uM_X7)
  obtain ⟨c8, iS8, hKn8⟩ := u_known (C := RX8) (T := TX8) (N := 22) (n := 22) hts (fun w h => (List.mem_filter.mp (uU_X8 w h)).1) (hU (.instantiable RX8 22) uM_X8)
  obtain ⟨dC, dI, hKc⟩ : ∃ (dC : Nat → ClassId) (dI : Nat → Nat → Nat), ∀ (k : Nat) (q : vw_C), vwCl[k]? = some q → u_Kn s q.1 q.2.1 q.2.2 (dC k) (dI k) := by
    refine ⟨fun k => if k = 0 then c0 else if k = 1 then c1 else if k = 2 then c2 else if k = 3 then c3 else if k = 4 then c4 else if k = 5 then c5 else if k = 6 then c6 else if k = 7 then c7 else c8, fun k => if k = 0 then iS0 else if k = 1 then iS1 else if k = 2 then iS2 else if k = 3 then iS3 else if k = 4 then iS4 else if k = 5 then iS5 else if k = 6 then iS6 else if k = 7 then iS7 else iS8, ?_⟩
    intro k q hq
    match k, hq with
    | 0, hq => cases hq; exact hKn0
    | 1, hq => cases hq; exact hKn1
    | 2, hq => cases hq; exact hKn2
    | 3, hq => cases hq; exact hKn3
    | 4, hq => cases hq; exact hKn4
    | 5, hq => cases hq; exact hKn5
    | 6, hq => cases hq; exact hKn6
    | 7, hq => cases hq; exact hKn7
    | 8, hq => cases hq; exact hKn8
    | k + 9, hq => simp [vwCl] at hq
  have hK : va_K (dC, dI) vwCl (zty cI) s := ⟨hKc, hKa⟩
  have hS : va_S (fun q : Nat => s.heap.size ≤ q) s.heap s.heap [] := va_S.rf
  have hP : va_P (dC, dI) vwCl [] s.heap := fun k q h => by simp at h
  have hD : va_D (fun q : Nat => s.heap.size ≤ q) [] := ⟨fun i j p q h => by simp at h, fun k q h => by simp at h⟩
  have hl := lv_entry ([.ref b]) (n := 4) (Nat.le_of_ble_eq_true rfl)
  rw [lg_entry_eq]
  generalize (lg_sl ([.ref b]) ++ List.replicate (4 - (lg_sl ([.ref b])).length) Slot.unset).toArray = ls at hl ⊢
  have hl : lv_has ls 4 [(0, .ref b)] := hl
  refine va_new (ci := 7) (fs := [.null, .null, .null, .null, .null, .null, .null]) (C := RX7) (T := TX7) (N := 7) hx hb hU uU_X7 tyX7 tyX7_ok hown (hU _ uG_L_7) (hU _ uM_X7) (hU _ uN_X7) hK hP hD hS hA rfl dfX7 (Nat.le_of_ble_eq_true rfl) (Nat.le_of_ble_eq_true rfl) dL_law_0 (fun q1 H hP hD hS => ?_)
  refine W.widen (k := 1) (n := 7) (Nat.le_of_ble_eq_true rfl) (Nat.le_of_ble_eq_true rfl) ?_
  refine lv_dup hx hb dL_law_3 rfl ?_
  refine z_kcallI hx hb hml hown hU hK hM (W0 := []) (a1 := q1) (sh := kLB cI) (S1 := zLB S1) hP hD hS hA 0 uL_L_9 uN_X7 uI_X7_init uC_X7_init rfl yd_X7_init rfl rfl ⟨(Nat.le_of_ble_eq_true rfl), (Nat.le_of_ble_eq_true rfl)⟩ (As := []) (fun sz => kiX7 hF) rfl hl.1 rfl (Nat.le_of_ble_eq_true rfl) dL_law_4 ⟨(Nat.le_of_ble_eq_true rfl), (Nat.le_of_ble_eq_true rfl)⟩ (fun x1 H locs hP hD hS => ?_)
  refine W.widen (k := 101) (n := 1276) (Nat.le_of_ble_eq_true rfl) (Nat.le_of_ble_eq_true rfl) ?_
  refine lv_astore_n (lv' := [(1, .ref q1), (0, .ref b)]) hx hb dL_law_7 rfl hl (by decide) rfl (fun ls hl => ?_)
  refine va_new (ci := 8) (fs := [.int 0, .null, .null, .int 0, .int 0, .int 0, .null, .null, .int 0, .int 0, .int 0, .int 0, .int 0, .long 0, .long 0, .long 0, .long 0, .int 0, .null, .null, .null, .null]) (C := RX8) (T := TX8) (N := 22) hx hb hU uU_X8 tyX8 tyX8_ok hown (hU _ uG_L_10) (hU _ uM_X8) (hU _ uN_X8) hK hP hD hS hA rfl dfX8 (Nat.le_of_ble_eq_true rfl) (Nat.le_of_ble_eq_true rfl) dL_law_8 (fun q2 H hP hD hS => ?_)
  refine W.widen (k := 102) (n := 1298) (Nat.le_of_ble_eq_true rfl) (Nat.le_of_ble_eq_true rfl) ?_
  refine lv_dup hx hb dL_law_11 rfl ?_
  refine z_kcallI hx hb hml hown hU hK hM (W0 := zWd cI (kLB cI) (zx q1 x1) (zLB S1)) (a1 := q2) (sh := kMod cI) (S1 := zZ) hP hD hS hA 0 uL_L_12 uN_X8 uI_X8_init uC_X8_init rfl yd_X8_init rfl rfl ⟨(Nat.le_of_ble_eq_true rfl), (Nat.le_of_ble_eq_true rfl)⟩ (As := []) (fun sz => kiX8) rfl hl.1 rfl (Nat.le_of_ble_eq_true rfl) dL_law_12 ⟨(Nat.le_of_ble_eq_true rfl), (Nat.le_of_ble_eq_true rfl)⟩ (fun x2 H locs hP hD hS => ?_)
  refine W.widen (k := 110) (n := 2314) (Nat.le_of_ble_eq_true rfl) (Nat.le_of_ble_eq_true rfl) ?_
  refine lv_astore_n (lv' := [(2, .ref q2), (1, .ref q1), (0, .ref b)]) hx hb dL_law_15 rfl hl (by decide) rfl (fun ls hl => ?_)
  refine lv_iconst (v := 0) hx hb dL_law_16 rfl ?_
  refine lv_istore_n (lv' := [(3, .int 0), (2, .ref q2), (1, .ref q1), (0, .ref b)]) hx hb dL_law_17 rfl hl (by decide) rfl (fun ls hl => ?_)
  obtain ⟨q, hqe⟩ : ∃ q : Nat → Nat, q = (fun k => if k < 101 then zx q1 x1 k else zx q2 x2 (k - 101)) := ⟨_, rfl⟩
  have hfg : ∀ j, j < 8 → some (zx q1 x1 (10 + 7 * j)) = some (q (10 + 7 * j)) := by
    intro j hj
    subst hqe
    rcases (show j = 0 ∨ j = 1 ∨ j = 2 ∨ j = 3 ∨ j = 4 ∨ j = 5 ∨ j = 6 ∨ j = 7 by omega) with rfl | rfl | rfl | rfl | rfl | rfl | rfl | rfl <;> rfl
  replace hP := z_arrqK (k := 9) (q1 := zx q1 x1 9) (cA := cI.2) (f := fun j => some (zx q1 x1 (10 + 7 * j))) (g := fun j => some (q (10 + 7 * j))) rfl hfg hP
  replace hD := z_setD (k := 9) (q1 := zx q1 x1 9) (e1 := .inl (cI.2, 8, .inr (.inr (.inr (.inr (fun j => some (zx q1 x1 (10 + 7 * j)))))))) (e2 := .inl (cI.2, 8, .inr (.inr (.inr (.inr (fun j => some (q (10 + 7 * j)))))))) rfl hD
  have heq : (zWd cI (kLB cI) (zx q1 x1) (zLB S1) ++ zWd cI (kMod cI) (zx q2 x2) zZ).set 9 (zx q1 x1 9, .inl (cI.2, 8, .inr (.inr (.inr (.inr (fun j => some (q (10 + 7 * j)))))))) = zWd cI (zSH cI) q (zLB S1) := by subst hqe; rfl
  replace hP : va_P (dC, dI) vwCl (zWd cI (zSH cI) q (zLB S1)) H := by rw [← heq]; exact hP
  replace hD : va_D (fun q : Nat => s.heap.size ≤ q) (zWd cI (zSH cI) q (zLB S1)) := by rw [← heq]; exact hD
  have hq0 : q1 = q 0 := by subst hqe; rfl
  have hq1 : q2 = q 101 := by subst hqe; rfl
  rw [hq0, hq1] at hl
  have hge : ∀ a, zA (zSH cI) q a → s.heap.size ≤ a := zA_in hD
  have hbA : ¬ zA (zSH cI) q b := fun h => absurd (hge b h) (Nat.not_le.mpr hbl)
  have hX' : va_X b L xs s H := hX.kept (hS.2.1 b hbl (Nat.not_le.mpr hbl))
  refine va_forget (fun z hz => hS.2.2 z hz) ?_
  exact law_loop hL hx hb hr hml hown hU hlocks (cW := zSH cI) rfl (zI_of hD) hge hK hM.1 hX' (Nat.lt_of_lt_of_le hbl hS.1) hbA Inv hall (L + 1) 0 (zLB S1) H [] ls (by omega) (by omega) hI0 hP va_S.rf (lv_sub hl [3, 2, 1, 0] rfl)
