theorem zD_addr {A : Nat → Prop} {ws ws' : va_W} (h : ws.map Prod.fst = ws'.map Prod.fst) (hD : va_D A ws) : va_D A ws' := by
  have e : ∀ (k : Nat) (p : Nat × va_E), ws'[k]? = some p → ∃ p', ws[k]? = some p' ∧ p'.1 = p.1 := by
    intro k p hp
    have h1 : (ws.map Prod.fst)[k]? = some p.1 := by rw [h, List.getElem?_map, hp]; rfl
    rw [List.getElem?_map, Option.map_eq_some_iff] at h1
    exact h1
  refine ⟨fun i j p q hi hj hpq => ?_, fun k q hk => ?_⟩
  · obtain ⟨p', hp', e1⟩ := e i p hi
    obtain ⟨q', hq', e2⟩ := e j q hj
    exact hD.1 i j p' q' hp' hq' (by rw [e1, e2]; exact hpq)
  · obtain ⟨q', hq', e1⟩ := e k q hk
    rw [← e1]; exact hD.2 k q' hq'
theorem zgo_fst (q : Nat → Nat) (S S' : zT) : ∀ (sh : List zSh) (i : Nat), (zgo q S i sh).map Prod.fst = (zgo q S' i sh).map Prod.fst
  | [], i => rfl
  | f :: r, i => by simp only [zgo, List.map_cons, zgo_fst q S S' r (i + 1)]
theorem zI_of {A : Nat → Prop} {cI : ClassId × ClassId} {sh : List zSh} {q : Nat → Nat} {S : zT} (hD : va_D A (zWd cI sh q S)) : zI sh q := by
  intro i j hi hj h
  exact hD.1 i j _ _ (zWd_get (cI := cI) (S := S) (List.getElem?_eq_getElem hi)) (zWd_get (cI := cI) (S := S) (List.getElem?_eq_getElem hj)) h
theorem zA_in {A : Nat → Prop} {cI : ClassId × ClassId} {sh : List zSh} {q : Nat → Nat} {S : zT} (hD : va_D A (zWd cI sh q S)) : ∀ a, zA sh q a → A a := by
  rintro a ⟨k, hk, rfl⟩
  exact hD.2 k _ (zWd_get (cI := cI) (S := S) (List.getElem?_eq_getElem hk))
/-- cells of a tree are changed, the others stay -/
theorem z_upd {A : Nat → Prop} {D : va_G} {cl : List vw_C} {cI : ClassId × ClassId} {sh : List zSh} {x : Nat → Nat} {S S1 : zT} {W0 V : va_W} {H H1 : Heap} (hP : va_P D cl (W0 ++ (zWd cI sh x S ++ V)) H) (hD : va_D A (W0 ++ (zWd cI sh x S ++ V))) (hk : ∀ q : Nat, q < H.size → ¬ zA sh x q → H1[q]? = H[q]?) (hP1 : va_P D cl (zWd cI sh x S1) H1) : va_P D cl (W0 ++ (zWd cI sh x S1 ++ V)) H1 ∧ va_D A (W0 ++ (zWd cI sh x S1 ++ V)) := by
  have at' : ∀ a, zA sh x a → ∃ (k : Nat) (p : Nat × va_E), (zWd cI sh x S)[k]? = some p ∧ p.1 = a := by
    rintro a ⟨k, hk, rfl⟩
    exact ⟨k, _, zWd_get (cI := cI) (S := S) (List.getElem?_eq_getElem hk), rfl⟩
  refine ⟨va_P.app (fun k q hq => ?_) (va_P.app hP1 (fun k q hq => ?_)), zD_addr ?_ hD⟩
  · have h0 := zP_l hP k q hq
    refine h0.kept (hk q.1 h0.lt (fun h => ?_))
    obtain ⟨k2, p, h1, h2⟩ := at' _ h
    have hl := (List.getElem?_eq_some_iff.mp h1).1
    exact zD_x hD hq (show (zWd cI sh x S ++ V)[k2]? = some p by rw [List.getElem?_append_left hl]; exact h1) h2.symm
  · have h0 := zP_r (zP_r hP) k q hq
    refine h0.kept (hk q.1 h0.lt (fun h => ?_))
    obtain ⟨k2, p, h1, h2⟩ := at' _ h
    exact zD_x (zD_r hD) h1 hq h2
  · simp only [List.map_append]
    rw [show (zWd cI sh x S).map Prod.fst = (zWd cI sh x S1).map Prod.fst from zgo_fst x S S1 sh 0]
section ZK2
variable {p : Program} {l : Launch} {e : Env} {R : Room} {s : State} {m : MethodId} {args : Array Value} {below : List Frame} {meth : Method} {c : Code} {H : Heap} {locs : List Loc} {cells slots : Nat} {Q : State → Prop}
variable {pc nL : Nat} {ls : Array Slot} {rest st : List Value} {cc : ByteArray} {H0 : Heap} {A : Nat → Prop}
variable {dC : Nat → ClassId} {dI : Nat → Nat → Nat} {cI : ClassId × ClassId}
theorem z_kwarr (hx : p.tables.exec = Jvm.exec) (hb : c.code = cc) (hU : ∀ w ∈ zU, w.before args s = true) {own : String} {index : Nat} (hown : s.vm.findClass own = some m.cls) (hl : Cond.classLink own index RX6 ∈ zU) (hO : va_AO RX6 s) {ws : va_W} (hK : va_K (dC, dI) vwCl (zty cI) s) (hP : va_P (dC, dI) vwCl ws H) (hD : va_D A ws) (hS : va_S A H0 H locs) (hA : ∀ q, H0.size ≤ q → A q) {v : Int32} {n : Nat} (hn : ¬ v < 0) (hN : v.toNatClampNeg = n) (hbytes : n * 4 ≤ 536870912) (hcells : cells + 1 ≤ R.cells) (hslots : slots + n ≤ R.slots) (hd : decode cc pc = .ok (.anewarray index, 3))
    (kk : ∀ (a1 : Nat) (H1 : Heap), va_P (dC, dI) vwCl (ws ++ [(a1, .inl (cI.2, n, .inr (.inr (.inr (.inr (fun _ => none))))))]) H1 → va_D A (ws ++ [(a1, .inl (cI.2, n, .inr (.inr (.inr (.inr (fun _ => none))))))]) → va_S A H0 H1 locs → W p l e R s m args below meth c H1 locs (cells + 1) (slots + n) Q (F0 m (pc + 3) ls (.ref a1 :: rest))) : W p l e R s m args below meth c H locs cells slots Q (F0 m pc ls (.int v :: rest)) := by
  refine va_newq hx hb hown (hU _ hl) hO hK hP hD hS hA hn hN hbytes hcells hslots hd (fun a1 cA H1 hK1 hP1 hD1 hS1 => ?_)
  obtain ⟨_, _, _, _, _, e1⟩ := (hK1.2 2 _ rfl).2
  obtain ⟨_, _, _, _, _, e2⟩ := (hK.2 1 _ rfl).2
  have e3 : cA = cI.2 := Option.some.inj (e1.symm.trans e2)
  subst e3
  exact kk a1 H1 hP1 hD1 hS1
theorem z_kmake (hx : p.tables.exec = Jvm.exec) (hb : c.code = cc) (hml : c.maxLocals = nL) (hown : s.vm.findClass RX7 = some m.cls) (hU : ∀ w ∈ zU, w.before args s = true) (hK : va_K (dC, dI) vwCl (zty cI) s) (hM : zM s) {own : Nat × va_E} {x : Nat → Nat} {V : va_W} {S1 : zT} (hP : va_P (dC, dI) vwCl (own :: (zWd cI (kWk cI) x zZ ++ V)) H) (hD : va_D A (own :: (zWd cI (kWk cI) x zZ ++ V))) (hS : va_S A H0 H locs) (hF : fX6_makeAnew 0 4 0 zZ = some S1) (hR : rmX6_makeAnew.frames + 1 ≤ R.frames ∧ 8 + (4 + 11) + rmX6_makeAnew.locals ≤ R.locals) (hsize : ls.size = nL) (hroom : (rest.map fun v => v.category).sum ≤ 8) (hd : decode cc pc = .ok (.invokevirtual 59, 3)) (hf0 : cells + 0 ≤ R.cells ∧ slots + 0 ≤ R.slots)
    (kk : ∀ (H1 : Heap) (locs1 : List Loc), va_P (dC, dI) vwCl (own :: (zWd cI (kWk cI) x S1 ++ V)) H1 → va_D A (own :: (zWd cI (kWk cI) x S1 ++ V)) → va_S A H0 H1 locs1 → W p l e R s m args below meth c H1 locs1 cells slots Q (F0 m (pc + 3) ls rest)) : W p l e R s m args below meth c H locs cells slots Q (F0 m pc ls (.int 0 :: .int 4 :: .ref (x 0) :: rest)) := by
  have hP' : va_P (dC, dI) vwCl ([own] ++ (zWd cI (kWk cI) x zZ ++ V)) H := hP
  have hD' : va_D A ([own] ++ (zWd cI (kWk cI) x zZ ++ V)) := hD
  have hPc := zP_l (zP_r hP')
  have hDc := zD_l (zD_r hD')
  have hq := zI_of hDc
  have hwk : isWk cI (kWk cI) 0 := ⟨rfl, ⟨rfl, rfl⟩, ⟨rfl, rfl⟩, ⟨rfl, rfl⟩⟩
  refine va_callv (va_runV (As := [.int 4, .int 0]) (rest := rest) ⟨hx, hb, hml, hown, hU⟩ (ctX6_makeAnew hq hwk hF) (cwV 2 hU (zU_g (zU_V uL_X7_59 uI_X6_makeAnew uS_X6_makeAnew uN_X6 uC_X6_makeAnew)) rfl rfl rfl yd_X6_makeAnew hR) ⟨zSt_blind _, va_recv hK hPc (ci := 6) (q0 := 0) rfl rfl, fun U hU hW => ⟨rfl, zSt_of hPc hK hM.1 hU hW⟩⟩ rfl rfl hsize rfl (lv_room hroom) hd hf0) hS (fun q _ h => zA_in hDc q h) (zA_in hDc) (fun u t H1 locs1 ht hvm hw hB hz hk hS1 => ?_)
  subst hw
  obtain ⟨hP2, hD2⟩ := z_upd hP' hD' hk (by rw [← ht]; exact hB)
  exact kk H1 locs1 hP2 hD2 hS1
end ZK2
theorem z_arrq {D : va_G} {cl : List vw_C} {o : Nat × va_E} {q1 : Nat} {cA : ClassId} {n : Nat} {f g : Nat → Option Nat} {TT : va_W} {H : Heap} (hfg : ∀ j, j < n → f j = g j) (hP : va_P D cl (o :: (q1, .inl (cA, n, .inr (.inr (.inr (.inr f))))) :: TT) H) : va_P D cl (o :: (q1, .inl (cA, n, .inr (.inr (.inr (.inr g))))) :: TT) H := by
  intro k q hk
  match k, hk with
  | 0, hk => exact hP 0 q hk
  | 1, hk =>
    have hq : (q1, (Sum.inl (cA, n, .inr (.inr (.inr (.inr g)))) : va_E)) = q := Option.some.inj hk
    subst hq
    have h1 : H[q1]? = some (vp_cell cA (n, .inr (.inr (.inr (.inr f))))) := hP 1 _ rfl
    show H[q1]? = some (vp_cell cA (n, .inr (.inr (.inr (.inr g)))))
    rw [h1]
    have : arrV cA n (fun j => va_rf (f j)) = arrV cA n (fun j => va_rf (g j)) := by
      unfold arrV
      congr 2
      funext j
      show va_rf (f j.val) = va_rf (g j.val)
      rw [hfg j.val j.isLt]
    exact congrArg some this
  | k + 2, hk => exact hP (k + 2) q hk
theorem z_arrqD {A : Nat → Prop} {o : Nat × va_E} {q1 : Nat} {e1 e2 : va_E} {TT : va_W} (hD : va_D A (o :: (q1, e1) :: TT)) : va_D A (o :: (q1, e2) :: TT) := zD_addr (ws := o :: (q1, e1) :: TT) rfl hD
theorem z_arrqK {D : va_G} {cl : List vw_C} {ws : va_W} {k q1 : Nat} {cA : ClassId} {n : Nat} {f g : Nat → Option Nat} {H : Heap} (hk : ws[k]? = some (q1, .inl (cA, n, .inr (.inr (.inr (.inr f)))))) (hfg : ∀ j, j < n → f j = g j) (hP : va_P D cl ws H) : va_P D cl (ws.set k (q1, .inl (cA, n, .inr (.inr (.inr (.inr g)))))) H := by
  intro i q hi
  rw [List.getElem?_set] at hi
  by_cases hik : k = i
  · subst hik
    have hl := (List.getElem?_eq_some_iff.mp hk).1
    simp only [if_true, hl] at hi
    have hq : (q1, (Sum.inl (cA, n, .inr (.inr (.inr (.inr g)))) : va_E)) = q := Option.some.inj hi
    subst hq
    have h1 : H[q1]? = some (vp_cell cA (n, .inr (.inr (.inr (.inr f))))) := hP k _ hk
    show H[q1]? = some (vp_cell cA (n, .inr (.inr (.inr (.inr g)))))
    rw [h1]
    have : arrV cA n (fun j => va_rf (f j)) = arrV cA n (fun j => va_rf (g j)) := by
      unfold arrV
      congr 2
      funext j
      show va_rf (f j.val) = va_rf (g j.val)
      rw [hfg j.val j.isLt]
    exact congrArg some this
  · simp only [hik, if_false] at hi
    exact hP i q hi
theorem z_setD {A : Nat → Prop} {ws : va_W} {k q1 : Nat} {e1 e2 : va_E} (hk : ws[k]? = some (q1, e1)) (hD : va_D A ws) : va_D A (ws.set k (q1, e2)) := by
  refine zD_addr ?_ hD
  rw [List.map_set]
  apply List.ext_getElem?
  intro i
  rw [List.getElem?_set]
  by_cases hik : k = i
  · subst hik
    have hl := (List.getElem?_eq_some_iff.mp hk).1
    have hv := (List.getElem?_eq_some_iff.mp hk).2
    simp [hl, hv]
  · simp [hik]
abbrev rmX0_init : Room := { frames := 3, cells := 57, slots := 368, locals := 70 }
theorem yd_X0_init : yX0_init.cls ≠ "java/lang/invoke/MethodHandle" ∧ yX0_init.cls ≠ "java/lang/invoke/VarHandle" ∧ (parseMethodDescriptor yX0_init.desc).map (fun d => d.parameters.length) = some 0 := by decide +kernel
set_option maxRecDepth 100000 in
set_option maxHeartbeats 4000000 in
theorem kiX0 {l : Launch} {dC : Nat → ClassId} {dI : Nat → Nat → Nat} {cI : ClassId × ClassId} {a sz : Nat} : zCk l dC dI cI yX0_init (Cond.code yX0_init cX0_init 2 none :: zU) rmX0_init [.ref a] a 0 [.null, .int 0, .int 0] sz (kHis cI) zZ 57 368 := by
  refine zMetK (lv := [(0, .ref a)]) (by decide) rfl (Nat.le_of_ble_eq_true rfl) rfl ?_
  intro p e s m args below meth c Q A hx hb hml hr hU hown hlocks hin hK hM hP hD hS hA hAe ls hl hQ
  replace hown : s.vm.findClass RX0 = some m.cls := hown
  refine lv_aload_n hx hb dX0_init_0 rfl (lv_at hl 0 rfl) ?_
  refine z_kobj hx hb hown hml hl.1 hU uL_X0_3 dX0_init_1 (Nat.le_of_ble_eq_true rfl) (Nat.le_of_ble_eq_true rfl) ?_
  refine lv_aload_n hx hb dX0_init_4 rfl (lv_at hl 0 rfl) ?_
  refine lv_bipush (v := 8) hx hb dX0_init_5 rfl ?_
  refine z_kwarr hx hb hU hown uG_X0_9 hM.2.2.2.2.2.2.2.2.2.2 hK hP hD hS hA (n := 8) (by decide) (by decide) (by decide) (Nat.le_of_ble_eq_true rfl) (Nat.le_of_ble_eq_true rfl) dX0_init_7 (fun q1 H hP hD hS => ?_)
  refine W.widen (k := 1) (n := 8) (Nat.le_of_ble_eq_true rfl) (Nat.le_of_ble_eq_true rfl) ?_
  refine va_putF (D := (dC, dI)) (ci := 0) (v := .ref q1) (C := RX0) (T := TX0) (N := 3) hx hb hU uU_X0 tyX0 tyX0_ok nmX0 hown hK hP hD hS 0 rfl rfl 0 (by decide) (hU _ uF_X0_11) (fun _ h9 => h9) rfl hin rfl (tyX0_ok 0 (by decide)) rfl rfl (Nat.le_of_ble_eq_true rfl) dX0_init_10 (fun H locs hP hD hS => ?_)
  have hP : va_P (dC, dI) vwCl ((a, .inr (0, [.ref q1, .int 0, .int 0])) :: (q1, .inl (cI.2, 8, .inr (.inr (.inr (.inr (fun _ => none)))))) :: []) H := hP
  have hD : va_D A ((a, .inr (0, [.ref q1, .int 0, .int 0])) :: (q1, .inl (cI.2, 8, .inr (.inr (.inr (.inr (fun _ => none)))))) :: []) := hD
  refine lv_iconst (v := 0) hx hb dX0_init_13 rfl ?_
  refine lv_istore_n (lv' := [(1, .int 0), (0, .ref a)]) hx hb dX0_init_14 rfl hl (by decide) rfl (fun ls hl => ?_)
  refine lv_iload_n hx hb dX0_init_15 rfl (lv_at hl 0 rfl) ?_
  refine lv_aload_n hx hb dX0_init_16 rfl (lv_at hl 1 rfl) ?_
  refine va_get (D := (dC, dI)) (ci := 0) (v := .ref q1) (C := RX0) (T := TX0) (N := 3) hx hb hU uU_X0 hown hK hP 0 rfl rfl 0 (by decide) (hU _ uF_X0_11) (fun _ h9 => h9) rfl dX0_init_17 ?_
  refine va_alen (v := 8) hx hb hK hP 1 1 rfl (ty := .object RX6) rfl rfl dX0_init_20 ?_
  refine lv_icmp_ge (tgt := 43) hx hb dX0_init_21 (by decide) (fun c9 => absurd c9 (by decide)) (fun _ => ?_)
  refine lv_aload_n hx hb dX0_init_24 rfl (lv_at hl 1 rfl) ?_
  refine va_get (D := (dC, dI)) (ci := 0) (v := .ref q1) (C := RX0) (T := TX0) (N := 3) hx hb hU uU_X0 hown hK hP 0 rfl rfl 0 (by decide) (hU _ uF_X0_11) (fun _ h9 => h9) rfl dX0_init_25 ?_
  refine lv_iload_n hx hb dX0_init_28 rfl (lv_at hl 0 rfl) ?_
  refine va_new (ci := 6) (fs := [.int 0, .int 0, .int 0, .int 0, .int 0, .int 0, .int 0, .null, .null, .null]) (C := RX6) (T := TX6) (N := 10) hx hb hU uU_X6 tyX6 tyX6_ok hown (hU _ uG_X0_9) (hU _ uM_X6) (hU _ uN_X6) hK hP hD hS hA rfl dfX6 (Nat.le_of_ble_eq_true rfl) (Nat.le_of_ble_eq_true rfl) dX0_init_29 (fun q2 H hP hD hS => ?_)
  refine W.widen (k := 2) (n := 18) (Nat.le_of_ble_eq_true rfl) (Nat.le_of_ble_eq_true rfl) ?_
  refine lv_dup hx hb dX0_init_32 rfl ?_
  refine z_kcallN hx hb hml hown hU hK hM (W0 := (a, .inr (0, [.ref q1, .int 0, .int 0])) :: (q1, .inl (cI.2, 8, .inr (.inr (.inr (.inr (fun _ => none)))))) :: []) (a1 := q2) (sh := kWk cI) (S1 := zZ) hP hD hS hA 0 hM.2.2.1 uN_X6 uI_X6_init uC_X6_init rfl yd_X6_init rfl rfl ⟨(Nat.le_of_ble_eq_true rfl), (Nat.le_of_ble_eq_true rfl)⟩ (As := []) (fun sz => kiX6) rfl hl.1 rfl (Nat.le_of_ble_eq_true rfl) dX0_init_33 ⟨(Nat.le_of_ble_eq_true rfl), (Nat.le_of_ble_eq_true rfl)⟩ (fun x3 H locs hP hD hS => ?_)
  refine W.widen (k := 8) (n := 53) (Nat.le_of_ble_eq_true rfl) (Nat.le_of_ble_eq_true rfl) ?_
  have hP : va_P (dC, dI) vwCl ((a, .inr (0, [.ref q1, .int 0, .int 0])) :: (q1, .inl (cI.2, 8, .inr (.inr (.inr (.inr (fun _ => none)))))) :: zWd cI (kWk cI) (zx q2 x3) zZ) H := hP
  have hD : va_D A ((a, .inr (0, [.ref q1, .int 0, .int 0])) :: (q1, .inl (cI.2, 8, .inr (.inr (.inr (.inr (fun _ => none)))))) :: zWd cI (kWk cI) (zx q2 x3) zZ) := hD
  refine va_astq (D := (dC, dI)) (r := (RX6, TX6, 10)) hx hb hK hP hD hS 1 1 2 6 rfl rfl rfl rfl (by unfold vp_in; decide) dX0_init_36 (fun H locs hP hD hS => ?_)
  have hP : va_P (dC, dI) vwCl ((a, .inr (0, [.ref q1, .int 0, .int 0])) :: (q1, .inl (cI.2, 8, .inr (.inr (.inr (.inr (va_up (fun _ => none) 0 (some q2))))))) :: zWd cI (kWk cI) (zx q2 x3) zZ) H := hP
  have hD : va_D A ((a, .inr (0, [.ref q1, .int 0, .int 0])) :: (q1, .inl (cI.2, 8, .inr (.inr (.inr (.inr (va_up (fun _ => none) 0 (some q2))))))) :: zWd cI (kWk cI) (zx q2 x3) zZ) := hD
  refine lv_iinc (v := 1) (lv' := [(1, .int 1), (0, .ref a)]) hx hb dX0_init_37 hl (k := 0) rfl rfl (by decide) rfl (fun ls hl => ?_)
  refine lv_goto (tgt := 15) hx hb dX0_init_40 (by decide) ?_
  refine lv_iload_n hx hb dX0_init_15 rfl (lv_at hl 0 rfl) ?_
  refine lv_aload_n hx hb dX0_init_16 rfl (lv_at hl 1 rfl) ?_
  refine va_get (D := (dC, dI)) (ci := 0) (v := .ref q1) (C := RX0) (T := TX0) (N := 3) hx hb hU uU_X0 hown hK hP 0 rfl rfl 0 (by decide) (hU _ uF_X0_11) (fun _ h9 => h9) rfl dX0_init_17 ?_
  refine va_alen (v := 8) hx hb hK hP 1 1 rfl (ty := .object RX6) rfl rfl dX0_init_20 ?_
  refine lv_icmp_ge (tgt := 43) hx hb dX0_init_21 (by decide) (fun c9 => absurd c9 (by decide)) (fun _ => ?_)
  refine lv_aload_n hx hb dX0_init_24 rfl (lv_at hl 1 rfl) ?_
  refine va_get (D := (dC, dI)) (ci := 0) (v := .ref q1) (C := RX0) (T := TX0) (N := 3) hx hb hU uU_X0 hown hK hP 0 rfl rfl 0 (by decide) (hU _ uF_X0_11) (fun _ h9 => h9) rfl dX0_init_25 ?_
  refine lv_iload_n hx hb dX0_init_28 rfl (lv_at hl 0 rfl) ?_
  refine va_new (ci := 6) (fs := [.int 0, .int 0, .int 0, .int 0, .int 0, .int 0, .int 0, .null, .null, .null]) (C := RX6) (T := TX6) (N := 10) hx hb hU uU_X6 tyX6 tyX6_ok hown (hU _ uG_X0_9) (hU _ uM_X6) (hU _ uN_X6) hK hP hD hS hA rfl dfX6 (Nat.le_of_ble_eq_true rfl) (Nat.le_of_ble_eq_true rfl) dX0_init_29 (fun q4 H hP hD hS => ?_)
  refine W.widen (k := 9) (n := 63) (Nat.le_of_ble_eq_true rfl) (Nat.le_of_ble_eq_true rfl) ?_
  refine lv_dup hx hb dX0_init_32 rfl ?_
  refine z_kcallN hx hb hml hown hU hK hM (W0 := (a, .inr (0, [.ref q1, .int 0, .int 0])) :: (q1, .inl (cI.2, 8, .inr (.inr (.inr (.inr (va_up (fun _ => none) 0 (some q2))))))) :: zWd cI (kWk cI) (zx q2 x3) zZ) (a1 := q4) (sh := kWk cI) (S1 := zZ) hP hD hS hA 0 hM.2.2.1 uN_X6 uI_X6_init uC_X6_init rfl yd_X6_init rfl rfl ⟨(Nat.le_of_ble_eq_true rfl), (Nat.le_of_ble_eq_true rfl)⟩ (As := []) (fun sz => kiX6) rfl hl.1 rfl (Nat.le_of_ble_eq_true rfl) dX0_init_33 ⟨(Nat.le_of_ble_eq_true rfl), (Nat.le_of_ble_eq_true rfl)⟩ (fun x5 H locs hP hD hS => ?_)
  refine W.widen (k := 15) (n := 98) (Nat.le_of_ble_eq_true rfl) (Nat.le_of_ble_eq_true rfl) ?_
  have hP : va_P (dC, dI) vwCl ((a, .inr (0, [.ref q1, .int 0, .int 0])) :: (q1, .inl (cI.2, 8, .inr (.inr (.inr (.inr (va_up (fun _ => none) 0 (some q2))))))) :: (zWd cI (kWk cI) (zx q2 x3) zZ ++ zWd cI (kWk cI) (zx q4 x5) zZ)) H := hP
  have hD : va_D A ((a, .inr (0, [.ref q1, .int 0, .int 0])) :: (q1, .inl (cI.2, 8, .inr (.inr (.inr (.inr (va_up (fun _ => none) 0 (some q2))))))) :: (zWd cI (kWk cI) (zx q2 x3) zZ ++ zWd cI (kWk cI) (zx q4 x5) zZ)) := hD
  refine va_astq (D := (dC, dI)) (r := (RX6, TX6, 10)) hx hb hK hP hD hS 1 1 9 6 rfl rfl rfl rfl (by unfold vp_in; decide) dX0_init_36 (fun H locs hP hD hS => ?_)
  have hP : va_P (dC, dI) vwCl ((a, .inr (0, [.ref q1, .int 0, .int 0])) :: (q1, .inl (cI.2, 8, .inr (.inr (.inr (.inr (va_up (va_up (fun _ => none) 0 (some q2)) 1 (some q4))))))) :: (zWd cI (kWk cI) (zx q2 x3) zZ ++ zWd cI (kWk cI) (zx q4 x5) zZ)) H := hP
  have hD : va_D A ((a, .inr (0, [.ref q1, .int 0, .int 0])) :: (q1, .inl (cI.2, 8, .inr (.inr (.inr (.inr (va_up (va_up (fun _ => none) 0 (some q2)) 1 (some q4))))))) :: (zWd cI (kWk cI) (zx q2 x3) zZ ++ zWd cI (kWk cI) (zx q4 x5) zZ)) := hD
  refine lv_iinc (v := 2) (lv' := [(1, .int 2), (0, .ref a)]) hx hb dX0_init_37 hl (k := 0) rfl rfl (by decide) rfl (fun ls hl => ?_)
  refine lv_goto (tgt := 15) hx hb dX0_init_40 (by decide) ?_
  refine lv_iload_n hx hb dX0_init_15 rfl (lv_at hl 0 rfl) ?_
  refine lv_aload_n hx hb dX0_init_16 rfl (lv_at hl 1 rfl) ?_
  refine va_get (D := (dC, dI)) (ci := 0) (v := .ref q1) (C := RX0) (T := TX0) (N := 3) hx hb hU uU_X0 hown hK hP 0 rfl rfl 0 (by decide) (hU _ uF_X0_11) (fun _ h9 => h9) rfl dX0_init_17 ?_
  refine va_alen (v := 8) hx hb hK hP 1 1 rfl (ty := .object RX6) rfl rfl dX0_init_20 ?_
  refine lv_icmp_ge (tgt := 43) hx hb dX0_init_21 (by decide) (fun c9 => absurd c9 (by decide)) (fun _ => ?_)
  refine lv_aload_n hx hb dX0_init_24 rfl (lv_at hl 1 rfl) ?_
  refine va_get (D := (dC, dI)) (ci := 0) (v := .ref q1) (C := RX0) (T := TX0) (N := 3) hx hb hU uU_X0 hown hK hP 0 rfl rfl 0 (by decide) (hU _ uF_X0_11) (fun _ h9 => h9) rfl dX0_init_25 ?_
  refine lv_iload_n hx hb dX0_init_28 rfl (lv_at hl 0 rfl) ?_
  refine va_new (ci := 6) (fs := [.int 0, .int 0, .int 0, .int 0, .int 0, .int 0, .int 0, .null, .null, .null]) (C := RX6) (T := TX6) (N := 10) hx hb hU uU_X6 tyX6 tyX6_ok hown (hU _ uG_X0_9) (hU _ uM_X6) (hU _ uN_X6) hK hP hD hS hA rfl dfX6 (Nat.le_of_ble_eq_true rfl) (Nat.le_of_ble_eq_true rfl) dX0_init_29 (fun q6 H hP hD hS => ?_)
  refine W.widen (k := 16) (n := 108) (Nat.le_of_ble_eq_true rfl) (Nat.le_of_ble_eq_true rfl) ?_
  refine lv_dup hx hb dX0_init_32 rfl ?_
  refine z_kcallN hx hb hml hown hU hK hM (W0 := (a, .inr (0, [.ref q1, .int 0, .int 0])) :: (q1, .inl (cI.2, 8, .inr (.inr (.inr (.inr (va_up (va_up (fun _ => none) 0 (some q2)) 1 (some q4))))))) :: (zWd cI (kWk cI) (zx q2 x3) zZ ++ zWd cI (kWk cI) (zx q4 x5) zZ)) (a1 := q6) (sh := kWk cI) (S1 := zZ) hP hD hS hA 0 hM.2.2.1 uN_X6 uI_X6_init uC_X6_init rfl yd_X6_init rfl rfl ⟨(Nat.le_of_ble_eq_true rfl), (Nat.le_of_ble_eq_true rfl)⟩ (As := []) (fun sz => kiX6) rfl hl.1 rfl (Nat.le_of_ble_eq_true rfl) dX0_init_33 ⟨(Nat.le_of_ble_eq_true rfl), (Nat.le_of_ble_eq_true rfl)⟩ (fun x7 H locs hP hD hS => ?_)
  refine W.widen (k := 22) (n := 143) (Nat.le_of_ble_eq_true rfl) (Nat.le_of_ble_eq_true rfl) ?_
  have hP : va_P (dC, dI) vwCl ((a, .inr (0, [.ref q1, .int 0, .int 0])) :: (q1, .inl (cI.2, 8, .inr (.inr (.inr (.inr (va_up (va_up (fun _ => none) 0 (some q2)) 1 (some q4))))))) :: ((zWd cI (kWk cI) (zx q2 x3) zZ ++ zWd cI (kWk cI) (zx q4 x5) zZ) ++ zWd cI (kWk cI) (zx q6 x7) zZ)) H := hP
  have hD : va_D A ((a, .inr (0, [.ref q1, .int 0, .int 0])) :: (q1, .inl (cI.2, 8, .inr (.inr (.inr (.inr (va_up (va_up (fun _ => none) 0 (some q2)) 1 (some q4))))))) :: ((zWd cI (kWk cI) (zx q2 x3) zZ ++ zWd cI (kWk cI) (zx q4 x5) zZ) ++ zWd cI (kWk cI) (zx q6 x7) zZ)) := hD
  refine va_astq (D := (dC, dI)) (r := (RX6, TX6, 10)) hx hb hK hP hD hS 1 1 16 6 rfl rfl rfl rfl (by unfold vp_in; decide) dX0_init_36 (fun H locs hP hD hS => ?_)
  have hP : va_P (dC, dI) vwCl ((a, .inr (0, [.ref q1, .int 0, .int 0])) :: (q1, .inl (cI.2, 8, .inr (.inr (.inr (.inr (va_up (va_up (va_up (fun _ => none) 0 (some q2)) 1 (some q4)) 2 (some q6))))))) :: ((zWd cI (kWk cI) (zx q2 x3) zZ ++ zWd cI (kWk cI) (zx q4 x5) zZ) ++ zWd cI (kWk cI) (zx q6 x7) zZ)) H := hP
  have hD : va_D A ((a, .inr (0, [.ref q1, .int 0, .int 0])) :: (q1, .inl (cI.2, 8, .inr (.inr (.inr (.inr (va_up (va_up (va_up (fun _ => none) 0 (some q2)) 1 (some q4)) 2 (some q6))))))) :: ((zWd cI (kWk cI) (zx q2 x3) zZ ++ zWd cI (kWk cI) (zx q4 x5) zZ) ++ zWd cI (kWk cI) (zx q6 x7) zZ)) := hD
  refine lv_iinc (v := 3) (lv' := [(1, .int 3), (0, .ref a)]) hx hb dX0_init_37 hl (k := 0) rfl rfl (by decide) rfl (fun ls hl => ?_)
  refine lv_goto (tgt := 15) hx hb dX0_init_40 (by decide) ?_
  refine lv_iload_n hx hb dX0_init_15 rfl (lv_at hl 0 rfl) ?_
  refine lv_aload_n hx hb dX0_init_16 rfl (lv_at hl 1 rfl) ?_
  refine va_get (D := (dC, dI)) (ci := 0) (v := .ref q1) (C := RX0) (T := TX0) (N := 3) hx hb hU uU_X0 hown hK hP 0 rfl rfl 0 (by decide) (hU _ uF_X0_11) (fun _ h9 => h9) rfl dX0_init_17 ?_
  refine va_alen (v := 8) hx hb hK hP 1 1 rfl (ty := .object RX6) rfl rfl dX0_init_20 ?_
  refine lv_icmp_ge (tgt := 43) hx hb dX0_init_21 (by decide) (fun c9 => absurd c9 (by decide)) (fun _ => ?_)
  refine lv_aload_n hx hb dX0_init_24 rfl (lv_at hl 1 rfl) ?_
  refine va_get (D := (dC, dI)) (ci := 0) (v := .ref q1) (C := RX0) (T := TX0) (N := 3) hx hb hU uU_X0 hown hK hP 0 rfl rfl 0 (by decide) (hU _ uF_X0_11) (fun _ h9 => h9) rfl dX0_init_25 ?_
  refine lv_iload_n hx hb dX0_init_28 rfl (lv_at hl 0 rfl) ?_
  refine va_new (ci := 6) (fs := [.int 0, .int 0, .int 0, .int 0, .int 0, .int 0, .int 0, .null, .null, .null]) (C := RX6) (T := TX6) (N := 10) hx hb hU uU_X6 tyX6 tyX6_ok hown (hU _ uG_X0_9) (hU _ uM_X6) (hU _ uN_X6) hK hP hD hS hA rfl dfX6 (Nat.le_of_ble_eq_true rfl) (Nat.le_of_ble_eq_true rfl) dX0_init_29 (fun q8 H hP hD hS => ?_)
  refine W.widen (k := 23) (n := 153) (Nat.le_of_ble_eq_true rfl) (Nat.le_of_ble_eq_true rfl) ?_
  refine lv_dup hx hb dX0_init_32 rfl ?_
  refine z_kcallN hx hb hml hown hU hK hM (W0 := (a, .inr (0, [.ref q1, .int 0, .int 0])) :: (q1, .inl (cI.2, 8, .inr (.inr (.inr (.inr (va_up (va_up (va_up (fun _ => none) 0 (some q2)) 1 (some q4)) 2 (some q6))))))) :: ((zWd cI (kWk cI) (zx q2 x3) zZ ++ zWd cI (kWk cI) (zx q4 x5) zZ) ++ zWd cI (kWk cI) (zx q6 x7) zZ)) (a1 := q8) (sh := kWk cI) (S1 := zZ) hP hD hS hA 0 hM.2.2.1 uN_X6 uI_X6_init uC_X6_init rfl yd_X6_init rfl rfl ⟨(Nat.le_of_ble_eq_true rfl), (Nat.le_of_ble_eq_true rfl)⟩ (As := []) (fun sz => kiX6) rfl hl.1 rfl (Nat.le_of_ble_eq_true rfl) dX0_init_33 ⟨(Nat.le_of_ble_eq_true rfl), (Nat.le_of_ble_eq_true rfl)⟩ (fun x9 H locs hP hD hS => ?_)
  refine W.widen (k := 29) (n := 188) (Nat.le_of_ble_eq_true rfl) (Nat.le_of_ble_eq_true rfl) ?_
  have hP : va_P (dC, dI) vwCl ((a, .inr (0, [.ref q1, .int 0, .int 0])) :: (q1, .inl (cI.2, 8, .inr (.inr (.inr (.inr (va_up (va_up (va_up (fun _ => none) 0 (some q2)) 1 (some q4)) 2 (some q6))))))) :: (((zWd cI (kWk cI) (zx q2 x3) zZ ++ zWd cI (kWk cI) (zx q4 x5) zZ) ++ zWd cI (kWk cI) (zx q6 x7) zZ) ++ zWd cI (kWk cI) (zx q8 x9) zZ)) H := hP
  have hD : va_D A ((a, .inr (0, [.ref q1, .int 0, .int 0])) :: (q1, .inl (cI.2, 8, .inr (.inr (.inr (.inr (va_up (va_up (va_up (fun _ => none) 0 (some q2)) 1 (some q4)) 2 (some q6))))))) :: (((zWd cI (kWk cI) (zx q2 x3) zZ ++ zWd cI (kWk cI) (zx q4 x5) zZ) ++ zWd cI (kWk cI) (zx q6 x7) zZ) ++ zWd cI (kWk cI) (zx q8 x9) zZ)) := hD
  refine va_astq (D := (dC, dI)) (r := (RX6, TX6, 10)) hx hb hK hP hD hS 1 1 23 6 rfl rfl rfl rfl (by unfold vp_in; decide) dX0_init_36 (fun H locs hP hD hS => ?_)
  have hP : va_P (dC, dI) vwCl ((a, .inr (0, [.ref q1, .int 0, .int 0])) :: (q1, .inl (cI.2, 8, .inr (.inr (.inr (.inr (va_up (va_up (va_up (va_up (fun _ => none) 0 (some q2)) 1 (some q4)) 2 (some q6)) 3 (some q8))))))) :: (((zWd cI (kWk cI) (zx q2 x3) zZ ++ zWd cI (kWk cI) (zx q4 x5) zZ) ++ zWd cI (kWk cI) (zx q6 x7) zZ) ++ zWd cI (kWk cI) (zx q8 x9) zZ)) H := hP
  have hD : va_D A ((a, .inr (0, [.ref q1, .int 0, .int 0])) :: (q1, .inl (cI.2, 8, .inr (.inr (.inr (.inr (va_up (va_up (va_up (va_up (fun _ => none) 0 (some q2)) 1 (some q4)) 2 (some q6)) 3 (some q8))))))) :: (((zWd cI (kWk cI) (zx q2 x3) zZ ++ zWd cI (kWk cI) (zx q4 x5) zZ) ++ zWd cI (kWk cI) (zx q6 x7) zZ) ++ zWd cI (kWk cI) (zx q8 x9) zZ)) := hD
  refine lv_iinc (v := 4) (lv' := [(1, .int 4), (0, .ref a)]) hx hb dX0_init_37 hl (k := 0) rfl rfl (by decide) rfl (fun ls hl => ?_)
  refine lv_goto (tgt := 15) hx hb dX0_init_40 (by decide) ?_
  refine lv_iload_n hx hb dX0_init_15 rfl (lv_at hl 0 rfl) ?_
  refine lv_aload_n hx hb dX0_init_16 rfl (lv_at hl 1 rfl) ?_
  refine va_get (D := (dC, dI)) (ci := 0) (v := .ref q1) (C := RX0) (T := TX0) (N := 3) hx hb hU uU_X0 hown hK hP 0 rfl rfl 0 (by decide) (hU _ uF_X0_11) (fun _ h9 => h9) rfl dX0_init_17 ?_
  refine va_alen (v := 8) hx hb hK hP 1 1 rfl (ty := .object RX6) rfl rfl dX0_init_20 ?_
  refine lv_icmp_ge (tgt := 43) hx hb dX0_init_21 (by decide) (fun c9 => absurd c9 (by decide)) (fun _ => ?_)
  refine lv_aload_n hx hb dX0_init_24 rfl (lv_at hl 1 rfl) ?_
  refine va_get (D := (dC, dI)) (ci := 0) (v := .ref q1) (C := RX0) (T := TX0) (N := 3) hx hb hU uU_X0 hown hK hP 0 rfl rfl 0 (by decide) (hU _ uF_X0_11) (fun _ h9 => h9) rfl dX0_init_25 ?_
  refine lv_iload_n hx hb dX0_init_28 rfl (lv_at hl 0 rfl) ?_
  refine va_new (ci := 6) (fs := [.int 0, .int 0, .int 0, .int 0, .int 0, .int 0, .int 0, .null, .null, .null]) (C := RX6) (T := TX6) (N := 10) hx hb hU uU_X6 tyX6 tyX6_ok hown (hU _ uG_X0_9) (hU _ uM_X6) (hU _ uN_X6) hK hP hD hS hA rfl dfX6 (Nat.le_of_ble_eq_true rfl) (Nat.le_of_ble_eq_true rfl) dX0_init_29 (fun q10 H hP hD hS => ?_)
  refine W.widen (k := 30) (n := 198) (Nat.le_of_ble_eq_true rfl) (Nat.le_of_ble_eq_true rfl) ?_
  refine lv_dup hx hb dX0_init_32 rfl ?_
  refine z_kcallN hx hb hml hown hU hK hM (W0 := (a, .inr (0, [.ref q1, .int 0, .int 0])) :: (q1, .inl (cI.2, 8, .inr (.inr (.inr (.inr (va_up (va_up (va_up (va_up (fun _ => none) 0 (some q2)) 1 (some q4)) 2 (some q6)) 3 (some q8))))))) :: (((zWd cI (kWk cI) (zx q2 x3) zZ ++ zWd cI (kWk cI) (zx q4 x5) zZ) ++ zWd cI (kWk cI) (zx q6 x7) zZ) ++ zWd cI (kWk cI) (zx q8 x9) zZ)) (a1 := q10) (sh := kWk cI) (S1 := zZ) hP hD hS hA 0 hM.2.2.1 uN_X6 uI_X6_init uC_X6_init rfl yd_X6_init rfl rfl ⟨(Nat.le_of_ble_eq_true rfl), (Nat.le_of_ble_eq_true rfl)⟩ (As := []) (fun sz => kiX6) rfl hl.1 rfl (Nat.le_of_ble_eq_true rfl) dX0_init_33 ⟨(Nat.le_of_ble_eq_true rfl), (Nat.le_of_ble_eq_true rfl)⟩ (fun x11 H locs hP hD hS => ?_)
  refine W.widen (k := 36) (n := 233) (Nat.le_of_ble_eq_true rfl) (Nat.le_of_ble_eq_true rfl) ?_
  have hP : va_P (dC, dI) vwCl ((a, .inr (0, [.ref q1, .int 0, .int 0])) :: (q1, .inl (cI.2, 8, .inr (.inr (.inr (.inr (va_up (va_up (va_up (va_up (fun _ => none) 0 (some q2)) 1 (some q4)) 2 (some q6)) 3 (some q8))))))) :: ((((zWd cI (kWk cI) (zx q2 x3) zZ ++ zWd cI (kWk cI) (zx q4 x5) zZ) ++ zWd cI (kWk cI) (zx q6 x7) zZ) ++ zWd cI (kWk cI) (zx q8 x9) zZ) ++ zWd cI (kWk cI) (zx q10 x11) zZ)) H := hP
  have hD : va_D A ((a, .inr (0, [.ref q1, .int 0, .int 0])) :: (q1, .inl (cI.2, 8, .inr (.inr (.inr (.inr (va_up (va_up (va_up (va_up (fun _ => none) 0 (some q2)) 1 (some q4)) 2 (some q6)) 3 (some q8))))))) :: ((((zWd cI (kWk cI) (zx q2 x3) zZ ++ zWd cI (kWk cI) (zx q4 x5) zZ) ++ zWd cI (kWk cI) (zx q6 x7) zZ) ++ zWd cI (kWk cI) (zx q8 x9) zZ) ++ zWd cI (kWk cI) (zx q10 x11) zZ)) := hD
  refine va_astq (D := (dC, dI)) (r := (RX6, TX6, 10)) hx hb hK hP hD hS 1 1 30 6 rfl rfl rfl rfl (by unfold vp_in; decide) dX0_init_36 (fun H locs hP hD hS => ?_)
  have hP : va_P (dC, dI) vwCl ((a, .inr (0, [.ref q1, .int 0, .int 0])) :: (q1, .inl (cI.2, 8, .inr (.inr (.inr (.inr (va_up (va_up (va_up (va_up (va_up (fun _ => none) 0 (some q2)) 1 (some q4)) 2 (some q6)) 3 (some q8)) 4 (some q10))))))) :: ((((zWd cI (kWk cI) (zx q2 x3) zZ ++ zWd cI (kWk cI) (zx q4 x5) zZ) ++ zWd cI (kWk cI) (zx q6 x7) zZ) ++ zWd cI (kWk cI) (zx q8 x9) zZ) ++ zWd cI (kWk cI) (zx q10 x11) zZ)) H := hP
  have hD : va_D A ((a, .inr (0, [.ref q1, .int 0, .int 0])) :: (q1, .inl (cI.2, 8, .inr (.inr (.inr (.inr (va_up (va_up (va_up (va_up (va_up (fun _ => none) 0 (some q2)) 1 (some q4)) 2 (some q6)) 3 (some q8)) 4 (some q10))))))) :: ((((zWd cI (kWk cI) (zx q2 x3) zZ ++ zWd cI (kWk cI) (zx q4 x5) zZ) ++ zWd cI (kWk cI) (zx q6 x7) zZ) ++ zWd cI (kWk cI) (zx q8 x9) zZ) ++ zWd cI (kWk cI) (zx q10 x11) zZ)) := hD
  refine lv_iinc (v := 5) (lv' := [(1, .int 5), (0, .ref a)]) hx hb dX0_init_37 hl (k := 0) rfl rfl (by decide) rfl (fun ls hl => ?_)
  refine lv_goto (tgt := 15) hx hb dX0_init_40 (by decide) ?_
  refine lv_iload_n hx hb dX0_init_15 rfl (lv_at hl 0 rfl) ?_
  refine lv_aload_n hx hb dX0_init_16 rfl (lv_at hl 1 rfl) ?_
  refine va_get (D := (dC, dI)) (ci := 0) (v := .ref q1) (C := RX0) (T := TX0) (N := 3) hx hb hU uU_X0 hown hK hP 0 rfl rfl 0 (by decide) (hU _ uF_X0_11) (fun _ h9 => h9) rfl dX0_init_17 ?_
  refine va_alen (v := 8) hx hb hK hP 1 1 rfl (ty := .object RX6) rfl rfl dX0_init_20 ?_
  refine lv_icmp_ge (tgt := 43) hx hb dX0_init_21 (by decide) (fun c9 => absurd c9 (by decide)) (fun _ => ?_)
  refine lv_aload_n hx hb dX0_init_24 rfl (lv_at hl 1 rfl) ?_
  refine va_get (D := (dC, dI)) (ci := 0) (v := .ref q1) (C := RX0) (T := TX0) (N := 3) hx hb hU uU_X0 hown hK hP 0 rfl rfl 0 (by decide) (hU _ uF_X0_11) (fun _ h9 => h9) rfl dX0_init_25 ?_
  refine lv_iload_n hx hb dX0_init_28 rfl (lv_at hl 0 rfl) ?_
  refine va_new (ci := 6) (fs := [.int 0, .int 0, .int 0, .int 0, .int 0, .int 0, .int 0, .null, .null, .null]) (C := RX6) (T := TX6) (N := 10) hx hb hU uU_X6 tyX6 tyX6_ok hown (hU _ uG_X0_9) (hU _ uM_X6) (hU _ uN_X6) hK hP hD hS hA rfl dfX6 (Nat.le_of_ble_eq_true rfl) (Nat.le_of_ble_eq_true rfl) dX0_init_29 (fun q12 H hP hD hS => ?_)
  refine W.widen (k := 37) (n := 243) (Nat.le_of_ble_eq_true rfl) (Nat.le_of_ble_eq_true rfl) ?_
  refine lv_dup hx hb dX0_init_32 rfl ?_
  refine z_kcallN hx hb hml hown hU hK hM (W0 := (a, .inr (0, [.ref q1, .int 0, .int 0])) :: (q1, .inl (cI.2, 8, .inr (.inr (.inr (.inr (va_up (va_up (va_up (va_up (va_up (fun _ => none) 0 (some q2)) 1 (some q4)) 2 (some q6)) 3 (some q8)) 4 (some q10))))))) :: ((((zWd cI (kWk cI) (zx q2 x3) zZ ++ zWd cI (kWk cI) (zx q4 x5) zZ) ++ zWd cI (kWk cI) (zx q6 x7) zZ) ++ zWd cI (kWk cI) (zx q8 x9) zZ) ++ zWd cI (kWk cI) (zx q10 x11) zZ)) (a1 := q12) (sh := kWk cI) (S1 := zZ) hP hD hS hA 0 hM.2.2.1 uN_X6 uI_X6_init uC_X6_init rfl yd_X6_init rfl rfl ⟨(Nat.le_of_ble_eq_true rfl), (Nat.le_of_ble_eq_true rfl)⟩ (As := []) (fun sz => kiX6) rfl hl.1 rfl (Nat.le_of_ble_eq_true rfl) dX0_init_33 ⟨(Nat.le_of_ble_eq_true rfl), (Nat.le_of_ble_eq_true rfl)⟩ (fun x13 H locs hP hD hS => ?_)
  refine W.widen (k := 43) (n := 278) (Nat.le_of_ble_eq_true rfl) (Nat.le_of_ble_eq_true rfl) ?_
  have hP : va_P (dC, dI) vwCl ((a, .inr (0, [.ref q1, .int 0, .int 0])) :: (q1, .inl (cI.2, 8, .inr (.inr (.inr (.inr (va_up (va_up (va_up (va_up (va_up (fun _ => none) 0 (some q2)) 1 (some q4)) 2 (some q6)) 3 (some q8)) 4 (some q10))))))) :: (((((zWd cI (kWk cI) (zx q2 x3) zZ ++ zWd cI (kWk cI) (zx q4 x5) zZ) ++ zWd cI (kWk cI) (zx q6 x7) zZ) ++ zWd cI (kWk cI) (zx q8 x9) zZ) ++ zWd cI (kWk cI) (zx q10 x11) zZ) ++ zWd cI (kWk cI) (zx q12 x13) zZ)) H := hP
  have hD : va_D A ((a, .inr (0, [.ref q1, .int 0, .int 0])) :: (q1, .inl (cI.2, 8, .inr (.inr (.inr (.inr (va_up (va_up (va_up (va_up (va_up (fun _ => none) 0 (some q2)) 1 (some q4)) 2 (some q6)) 3 (some q8)) 4 (some q10))))))) :: (((((zWd cI (kWk cI) (zx q2 x3) zZ ++ zWd cI (kWk cI) (zx q4 x5) zZ) ++ zWd cI (kWk cI) (zx q6 x7) zZ) ++ zWd cI (kWk cI) (zx q8 x9) zZ) ++ zWd cI (kWk cI) (zx q10 x11) zZ) ++ zWd cI (kWk cI) (zx q12 x13) zZ)) := hD
  refine va_astq (D := (dC, dI)) (r := (RX6, TX6, 10)) hx hb hK hP hD hS 1 1 37 6 rfl rfl rfl rfl (by unfold vp_in; decide) dX0_init_36 (fun H locs hP hD hS => ?_)
  have hP : va_P (dC, dI) vwCl ((a, .inr (0, [.ref q1, .int 0, .int 0])) :: (q1, .inl (cI.2, 8, .inr (.inr (.inr (.inr (va_up (va_up (va_up (va_up (va_up (va_up (fun _ => none) 0 (some q2)) 1 (some q4)) 2 (some q6)) 3 (some q8)) 4 (some q10)) 5 (some q12))))))) :: (((((zWd cI (kWk cI) (zx q2 x3) zZ ++ zWd cI (kWk cI) (zx q4 x5) zZ) ++ zWd cI (kWk cI) (zx q6 x7) zZ) ++ zWd cI (kWk cI) (zx q8 x9) zZ) ++ zWd cI (kWk cI) (zx q10 x11) zZ) ++ zWd cI (kWk cI) (zx q12 x13) zZ)) H := hP
  have hD : va_D A ((a, .inr (0, [.ref q1, .int 0, .int 0])) :: (q1, .inl (cI.2, 8, .inr (.inr (.inr (.inr (va_up (va_up (va_up (va_up (va_up (va_up (fun _ => none) 0 (some q2)) 1 (some q4)) 2 (some q6)) 3 (some q8)) 4 (some q10)) 5 (some q12))))))) :: (((((zWd cI (kWk cI) (zx q2 x3) zZ ++ zWd cI (kWk cI) (zx q4 x5) zZ) ++ zWd cI (kWk cI) (zx q6 x7) zZ) ++ zWd cI (kWk cI) (zx q8 x9) zZ) ++ zWd cI (kWk cI) (zx q10 x11) zZ) ++ zWd cI (kWk cI) (zx q12 x13) zZ)) := hD
  refine lv_iinc (v := 6) (lv' := [(1, .int 6), (0, .ref a)]) hx hb dX0_init_37 hl (k := 0) rfl rfl (by decide) rfl (fun ls hl => ?_)
  refine lv_goto (tgt := 15) hx hb dX0_init_40 (by decide) ?_
  refine lv_iload_n hx hb dX0_init_15 rfl (lv_at hl 0 rfl) ?_
  refine lv_aload_n hx hb dX0_init_16 rfl (lv_at hl 1 rfl) ?_
  refine va_get (D := (dC, dI)) (ci := 0) (v := .ref q1) (C := RX0) (T := TX0) (N := 3) hx hb hU uU_X0 hown hK hP 0 rfl rfl 0 (by decide) (hU _ uF_X0_11) (fun _ h9 => h9) rfl dX0_init_17 ?_
  refine va_alen (v := 8) hx hb hK hP 1 1 rfl (ty := .object RX6) rfl rfl dX0_init_20 ?_
  refine lv_icmp_ge (tgt := 43) hx hb dX0_init_21 (by decide) (fun c9 => absurd c9 (by decide)) (fun _ => ?_)
  refine lv_aload_n hx hb dX0_init_24 rfl (lv_at hl 1 rfl) ?_
  refine va_get (D := (dC, dI)) (ci := 0) (v := .ref q1) (C := RX0) (T := TX0) (N := 3) hx hb hU uU_X0 hown hK hP 0 rfl rfl 0 (by decide) (hU _ uF_X0_11) (fun _ h9 => h9) rfl dX0_init_25 ?_
  refine lv_iload_n hx hb dX0_init_28 rfl (lv_at hl 0 rfl) ?_
  refine va_new (ci := 6) (fs := [.int 0, .int 0, .int 0, .int 0, .int 0, .int 0, .int 0, .null, .null, .null]) (C := RX6) (T := TX6) (N := 10) hx hb hU uU_X6 tyX6 tyX6_ok hown (hU _ uG_X0_9) (hU _ uM_X6) (hU _ uN_X6) hK hP hD hS hA rfl dfX6 (Nat.le_of_ble_eq_true rfl) (Nat.le_of_ble_eq_true rfl) dX0_init_29 (fun q14 H hP hD hS => ?_)
  refine W.widen (k := 44) (n := 288) (Nat.le_of_ble_eq_true rfl) (Nat.le_of_ble_eq_true rfl) ?_
  refine lv_dup hx hb dX0_init_32 rfl ?_
  refine z_kcallN hx hb hml hown hU hK hM (W0 := (a, .inr (0, [.ref q1, .int 0, .int 0])) :: (q1, .inl (cI.2, 8, .inr (.inr (.inr (.inr (va_up (va_up (va_up (va_up (va_up (va_up (fun _ => none) 0 (some q2)) 1 (some q4)) 2 (some q6)) 3 (some q8)) 4 (some q10)) 5 (some q12))))))) :: (((((zWd cI (kWk cI) (zx q2 x3) zZ ++ zWd cI (kWk cI) (zx q4 x5) zZ) ++ zWd cI (kWk cI) (zx q6 x7) zZ) ++ zWd cI (kWk cI) (zx q8 x9) zZ) ++ zWd cI (kWk cI) (zx q10 x11) zZ) ++ zWd cI (kWk cI) (zx q12 x13) zZ)) (a1 := q14) (sh := kWk cI) (S1 := zZ) hP hD hS hA 0 hM.2.2.1 uN_X6 uI_X6_init uC_X6_init rfl yd_X6_init rfl rfl ⟨(Nat.le_of_ble_eq_true rfl), (Nat.le_of_ble_eq_true rfl)⟩ (As := []) (fun sz => kiX6) rfl hl.1 rfl (Nat.le_of_ble_eq_true rfl) dX0_init_33 ⟨(Nat.le_of_ble_eq_true rfl), (Nat.le_of_ble_eq_true rfl)⟩ (fun x15 H locs hP hD hS => ?_)
  refine W.widen (k := 50) (n := 323) (Nat.le_of_ble_eq_true rfl) (Nat.le_of_ble_eq_true rfl) ?_
  have hP : va_P (dC, dI) vwCl ((a, .inr (0, [.ref q1, .int 0, .int 0])) :: (q1, .inl (cI.2, 8, .inr (.inr (.inr (.inr (va_up (va_up (va_up (va_up (va_up (va_up (fun _ => none) 0 (some q2)) 1 (some q4)) 2 (some q6)) 3 (some q8)) 4 (some q10)) 5 (some q12))))))) :: ((((((zWd cI (kWk cI) (zx q2 x3) zZ ++ zWd cI (kWk cI) (zx q4 x5) zZ) ++ zWd cI (kWk cI) (zx q6 x7) zZ) ++ zWd cI (kWk cI) (zx q8 x9) zZ) ++ zWd cI (kWk cI) (zx q10 x11) zZ) ++ zWd cI (kWk cI) (zx q12 x13) zZ) ++ zWd cI (kWk cI) (zx q14 x15) zZ)) H := hP
  have hD : va_D A ((a, .inr (0, [.ref q1, .int 0, .int 0])) :: (q1, .inl (cI.2, 8, .inr (.inr (.inr (.inr (va_up (va_up (va_up (va_up (va_up (va_up (fun _ => none) 0 (some q2)) 1 (some q4)) 2 (some q6)) 3 (some q8)) 4 (some q10)) 5 (some q12))))))) :: ((((((zWd cI (kWk cI) (zx q2 x3) zZ ++ zWd cI (kWk cI) (zx q4 x5) zZ) ++ zWd cI (kWk cI) (zx q6 x7) zZ) ++ zWd cI (kWk cI) (zx q8 x9) zZ) ++ zWd cI (kWk cI) (zx q10 x11) zZ) ++ zWd cI (kWk cI) (zx q12 x13) zZ) ++ zWd cI (kWk cI) (zx q14 x15) zZ)) := hD
  refine va_astq (D := (dC, dI)) (r := (RX6, TX6, 10)) hx hb hK hP hD hS 1 1 44 6 rfl rfl rfl rfl (by unfold vp_in; decide) dX0_init_36 (fun H locs hP hD hS => ?_)
  have hP : va_P (dC, dI) vwCl ((a, .inr (0, [.ref q1, .int 0, .int 0])) :: (q1, .inl (cI.2, 8, .inr (.inr (.inr (.inr (va_up (va_up (va_up (va_up (va_up (va_up (va_up (fun _ => none) 0 (some q2)) 1 (some q4)) 2 (some q6)) 3 (some q8)) 4 (some q10)) 5 (some q12)) 6 (some q14))))))) :: ((((((zWd cI (kWk cI) (zx q2 x3) zZ ++ zWd cI (kWk cI) (zx q4 x5) zZ) ++ zWd cI (kWk cI) (zx q6 x7) zZ) ++ zWd cI (kWk cI) (zx q8 x9) zZ) ++ zWd cI (kWk cI) (zx q10 x11) zZ) ++ zWd cI (kWk cI) (zx q12 x13) zZ) ++ zWd cI (kWk cI) (zx q14 x15) zZ)) H := hP
  have hD : va_D A ((a, .inr (0, [.ref q1, .int 0, .int 0])) :: (q1, .inl (cI.2, 8, .inr (.inr (.inr (.inr (va_up (va_up (va_up (va_up (va_up (va_up (va_up (fun _ => none) 0 (some q2)) 1 (some q4)) 2 (some q6)) 3 (some q8)) 4 (some q10)) 5 (some q12)) 6 (some q14))))))) :: ((((((zWd cI (kWk cI) (zx q2 x3) zZ ++ zWd cI (kWk cI) (zx q4 x5) zZ) ++ zWd cI (kWk cI) (zx q6 x7) zZ) ++ zWd cI (kWk cI) (zx q8 x9) zZ) ++ zWd cI (kWk cI) (zx q10 x11) zZ) ++ zWd cI (kWk cI) (zx q12 x13) zZ) ++ zWd cI (kWk cI) (zx q14 x15) zZ)) := hD
  refine lv_iinc (v := 7) (lv' := [(1, .int 7), (0, .ref a)]) hx hb dX0_init_37 hl (k := 0) rfl rfl (by decide) rfl (fun ls hl => ?_)
  refine lv_goto (tgt := 15) hx hb dX0_init_40 (by decide) ?_
  refine lv_iload_n hx hb dX0_init_15 rfl (lv_at hl 0 rfl) ?_
  refine lv_aload_n hx hb dX0_init_16 rfl (lv_at hl 1 rfl) ?_
  refine va_get (D := (dC, dI)) (ci := 0) (v := .ref q1) (C := RX0) (T := TX0) (N := 3) hx hb hU uU_X0 hown hK hP 0 rfl rfl 0 (by decide) (hU _ uF_X0_11) (fun _ h9 => h9) rfl dX0_init_17 ?_
  refine va_alen (v := 8) hx hb hK hP 1 1 rfl (ty := .object RX6) rfl rfl dX0_init_20 ?_
  refine lv_icmp_ge (tgt := 43) hx hb dX0_init_21 (by decide) (fun c9 => absurd c9 (by decide)) (fun _ => ?_)
  refine lv_aload_n hx hb dX0_init_24 rfl (lv_at hl 1 rfl) ?_
  refine va_get (D := (dC, dI)) (ci := 0) (v := .ref q1) (C := RX0) (T := TX0) (N := 3) hx hb hU uU_X0 hown hK hP 0 rfl rfl 0 (by decide) (hU _ uF_X0_11) (fun _ h9 => h9) rfl dX0_init_25 ?_
  refine lv_iload_n hx hb dX0_init_28 rfl (lv_at hl 0 rfl) ?_
  refine va_new (ci := 6) (fs := [.int 0, .int 0, .int 0, .int 0, .int 0, .int 0, .int 0, .null, .null, .null]) (C := RX6) (T := TX6) (N := 10) hx hb hU uU_X6 tyX6 tyX6_ok hown (hU _ uG_X0_9) (hU _ uM_X6) (hU _ uN_X6) hK hP hD hS hA rfl dfX6 (Nat.le_of_ble_eq_true rfl) (Nat.le_of_ble_eq_true rfl) dX0_init_29 (fun q16 H hP hD hS => ?_)
  refine W.widen (k := 51) (n := 333) (Nat.le_of_ble_eq_true rfl) (Nat.le_of_ble_eq_true rfl) ?_
  refine lv_dup hx hb dX0_init_32 rfl ?_
  refine z_kcallN hx hb hml hown hU hK hM (W0 := (a, .inr (0, [.ref q1, .int 0, .int 0])) :: (q1, .inl (cI.2, 8, .inr (.inr (.inr (.inr (va_up (va_up (va_up (va_up (va_up (va_up (va_up (fun _ => none) 0 (some q2)) 1 (some q4)) 2 (some q6)) 3 (some q8)) 4 (some q10)) 5 (some q12)) 6 (some q14))))))) :: ((((((zWd cI (kWk cI) (zx q2 x3) zZ ++ zWd cI (kWk cI) (zx q4 x5) zZ) ++ zWd cI (kWk cI) (zx q6 x7) zZ) ++ zWd cI (kWk cI) (zx q8 x9) zZ) ++ zWd cI (kWk cI) (zx q10 x11) zZ) ++ zWd cI (kWk cI) (zx q12 x13) zZ) ++ zWd cI (kWk cI) (zx q14 x15) zZ)) (a1 := q16) (sh := kWk cI) (S1 := zZ) hP hD hS hA 0 hM.2.2.1 uN_X6 uI_X6_init uC_X6_init rfl yd_X6_init rfl rfl ⟨(Nat.le_of_ble_eq_true rfl), (Nat.le_of_ble_eq_true rfl)⟩ (As := []) (fun sz => kiX6) rfl hl.1 rfl (Nat.le_of_ble_eq_true rfl) dX0_init_33 ⟨(Nat.le_of_ble_eq_true rfl), (Nat.le_of_ble_eq_true rfl)⟩ (fun x17 H locs hP hD hS => ?_)
  refine W.widen (k := 57) (n := 368) (Nat.le_of_ble_eq_true rfl) (Nat.le_of_ble_eq_true rfl) ?_
  have hP : va_P (dC, dI) vwCl ((a, .inr (0, [.ref q1, .int 0, .int 0])) :: (q1, .inl (cI.2, 8, .inr (.inr (.inr (.inr (va_up (va_up (va_up (va_up (va_up (va_up (va_up (fun _ => none) 0 (some q2)) 1 (some q4)) 2 (some q6)) 3 (some q8)) 4 (some q10)) 5 (some q12)) 6 (some q14))))))) :: (((((((zWd cI (kWk cI) (zx q2 x3) zZ ++ zWd cI (kWk cI) (zx q4 x5) zZ) ++ zWd cI (kWk cI) (zx q6 x7) zZ) ++ zWd cI (kWk cI) (zx q8 x9) zZ) ++ zWd cI (kWk cI) (zx q10 x11) zZ) ++ zWd cI (kWk cI) (zx q12 x13) zZ) ++ zWd cI (kWk cI) (zx q14 x15) zZ) ++ zWd cI (kWk cI) (zx q16 x17) zZ)) H := hP
  have hD : va_D A ((a, .inr (0, [.ref q1, .int 0, .int 0])) :: (q1, .inl (cI.2, 8, .inr (.inr (.inr (.inr (va_up (va_up (va_up (va_up (va_up (va_up (va_up (fun _ => none) 0 (some q2)) 1 (some q4)) 2 (some q6)) 3 (some q8)) 4 (some q10)) 5 (some q12)) 6 (some q14))))))) :: (((((((zWd cI (kWk cI) (zx q2 x3) zZ ++ zWd cI (kWk cI) (zx q4 x5) zZ) ++ zWd cI (kWk cI) (zx q6 x7) zZ) ++ zWd cI (kWk cI) (zx q8 x9) zZ) ++ zWd cI (kWk cI) (zx q10 x11) zZ) ++ zWd cI (kWk cI) (zx q12 x13) zZ) ++ zWd cI (kWk cI) (zx q14 x15) zZ) ++ zWd cI (kWk cI) (zx q16 x17) zZ)) := hD
  refine va_astq (D := (dC, dI)) (r := (RX6, TX6, 10)) hx hb hK hP hD hS 1 1 51 6 rfl rfl rfl rfl (by unfold vp_in; decide) dX0_init_36 (fun H locs hP hD hS => ?_)
  have hP : va_P (dC, dI) vwCl ((a, .inr (0, [.ref q1, .int 0, .int 0])) :: (q1, .inl (cI.2, 8, .inr (.inr (.inr (.inr (va_up (va_up (va_up (va_up (va_up (va_up (va_up (va_up (fun _ => none) 0 (some q2)) 1 (some q4)) 2 (some q6)) 3 (some q8)) 4 (some q10)) 5 (some q12)) 6 (some q14)) 7 (some q16))))))) :: (((((((zWd cI (kWk cI) (zx q2 x3) zZ ++ zWd cI (kWk cI) (zx q4 x5) zZ) ++ zWd cI (kWk cI) (zx q6 x7) zZ) ++ zWd cI (kWk cI) (zx q8 x9) zZ) ++ zWd cI (kWk cI) (zx q10 x11) zZ) ++ zWd cI (kWk cI) (zx q12 x13) zZ) ++ zWd cI (kWk cI) (zx q14 x15) zZ) ++ zWd cI (kWk cI) (zx q16 x17) zZ)) H := hP
  have hD : va_D A ((a, .inr (0, [.ref q1, .int 0, .int 0])) :: (q1, .inl (cI.2, 8, .inr (.inr (.inr (.inr (va_up (va_up (va_up (va_up (va_up (va_up (va_up (va_up (fun _ => none) 0 (some q2)) 1 (some q4)) 2 (some q6)) 3 (some q8)) 4 (some q10)) 5 (some q12)) 6 (some q14)) 7 (some q16))))))) :: (((((((zWd cI (kWk cI) (zx q2 x3) zZ ++ zWd cI (kWk cI) (zx q4 x5) zZ) ++ zWd cI (kWk cI) (zx q6 x7) zZ) ++ zWd cI (kWk cI) (zx q8 x9) zZ) ++ zWd cI (kWk cI) (zx q10 x11) zZ) ++ zWd cI (kWk cI) (zx q12 x13) zZ) ++ zWd cI (kWk cI) (zx q14 x15) zZ) ++ zWd cI (kWk cI) (zx q16 x17) zZ)) := hD
  refine lv_iinc (v := 8) (lv' := [(1, .int 8), (0, .ref a)]) hx hb dX0_init_37 hl (k := 0) rfl rfl (by decide) rfl (fun ls hl => ?_)
  refine lv_goto (tgt := 15) hx hb dX0_init_40 (by decide) ?_
  refine lv_iload_n hx hb dX0_init_15 rfl (lv_at hl 0 rfl) ?_
  refine lv_aload_n hx hb dX0_init_16 rfl (lv_at hl 1 rfl) ?_
  refine va_get (D := (dC, dI)) (ci := 0) (v := .ref q1) (C := RX0) (T := TX0) (N := 3) hx hb hU uU_X0 hown hK hP 0 rfl rfl 0 (by decide) (hU _ uF_X0_11) (fun _ h9 => h9) rfl dX0_init_17 ?_
  refine va_alen (v := 8) hx hb hK hP 1 1 rfl (ty := .object RX6) rfl rfl dX0_init_20 ?_
  refine lv_icmp_ge (tgt := 43) hx hb dX0_init_21 (by decide) (fun _ => ?_) (fun c9 => absurd (by decide) c9)
  obtain ⟨x, hxe⟩ : ∃ x : Nat → Nat, x = (fun k => if k = 0 then a else if k = 1 then q1 else if k < 9 then zx q2 x3 (k - 2) else if k < 16 then zx q4 x5 (k - 9) else if k < 23 then zx q6 x7 (k - 16) else if k < 30 then zx q8 x9 (k - 23) else if k < 37 then zx q10 x11 (k - 30) else if k < 44 then zx q12 x13 (k - 37) else if k < 51 then zx q14 x15 (k - 44) else zx q16 x17 (k - 51)) := ⟨_, rfl⟩
  have hfg : ∀ j, j < 8 → (va_up (va_up (va_up (va_up (va_up (va_up (va_up (va_up (fun _ => none) 0 (some q2)) 1 (some q4)) 2 (some q6)) 3 (some q8)) 4 (some q10)) 5 (some q12)) 6 (some q14)) 7 (some q16)) j = some (x (2 + 7 * j)) := by
    intro j hj
    subst hxe
    rcases (show j = 0 ∨ j = 1 ∨ j = 2 ∨ j = 3 ∨ j = 4 ∨ j = 5 ∨ j = 6 ∨ j = 7 by omega) with rfl | rfl | rfl | rfl | rfl | rfl | rfl | rfl <;> rfl
  replace hP := z_arrq hfg hP
  replace hD := z_arrqD (e2 := .inl (cI.2, 8, .inr (.inr (.inr (.inr (fun j => some (x (2 + 7 * j)))))))) hD
  exact z_kret hx hb hlocks hP hD hS hQ hAe hr dX0_init_43 x (by subst hxe; rfl) (by subst hxe; rfl)
def zLB (S1 : zT) : zT := (fun k => if 1 ≤ k ∧ k < 8 then S1.1 (k - 1) else fun _ => 0, fun _ _ => 0)
abbrev rmX7_init : Room := { frames := 5, cells := 100, slots := 1269, locals := 110 }
theorem yd_X7_init : yX7_init.cls ≠ "java/lang/invoke/MethodHandle" ∧ yX7_init.cls ≠ "java/lang/invoke/VarHandle" ∧ (parseMethodDescriptor yX7_init.desc).map (fun d => d.parameters.length) = some 0 := by decide +kernel
set_option maxRecDepth 100000 in
set_option maxHeartbeats 4000000 in
theorem kiX7 {l : Launch} {dC : Nat → ClassId} {dI : Nat → Nat → Nat} {cI : ClassId × ClassId} {a sz : Nat} {S1 : zT} (hF : fX6_makeAnew 0 4 0 zZ = some S1) : zCk l dC dI cI yX7_init (Cond.code yX7_init cX7_init 1 none :: zU) rmX7_init [.ref a] a 7 [.null, .null, .null, .null, .null, .null, .null] sz (kLB cI) (zLB S1) 100 1269 := by
  refine zMetK (lv := [(0, .ref a)]) (by decide) rfl (Nat.le_of_ble_eq_true rfl) rfl ?_
  intro p e s m args below meth c Q A hx hb hml hr hU hown hlocks hin hK hM hP hD hS hA hAe ls hl hQ
  replace hown : s.vm.findClass RX7 = some m.cls := hown
  refine lv_aload_n hx hb dX7_init_0 rfl (lv_at hl 0 rfl) ?_
  refine z_kobj hx hb hown hml hl.1 hU uL_X7_3 dX7_init_1 (Nat.le_of_ble_eq_true rfl) (Nat.le_of_ble_eq_true rfl) ?_
  refine lv_aload_n hx hb dX7_init_4 rfl (lv_at hl 0 rfl) ?_
  refine va_new (ci := 6) (fs := [.int 0, .int 0, .int 0, .int 0, .int 0, .int 0, .int 0, .null, .null, .null]) (C := RX6) (T := TX6) (N := 10) hx hb hU uU_X6 tyX6 tyX6_ok hown (hU _ uG_X7_9) (hU _ uM_X6) (hU _ uN_X6) hK hP hD hS hA rfl dfX6 (Nat.le_of_ble_eq_true rfl) (Nat.le_of_ble_eq_true rfl) dX7_init_5 (fun q1 H hP hD hS => ?_)
  refine W.widen (k := 1) (n := 10) (Nat.le_of_ble_eq_true rfl) (Nat.le_of_ble_eq_true rfl) ?_
  refine lv_dup hx hb dX7_init_8 rfl ?_
  refine z_kcallN hx hb hml hown hU hK hM (W0 := [(a, .inr (7, [.null, .null, .null, .null, .null, .null, .null]))]) (a1 := q1) (sh := (kWk cI)) (S1 := zZ) hP hD hS hA 0 hM.2.1 uN_X6 uI_X6_init uC_X6_init rfl yd_X6_init rfl rfl ⟨(Nat.le_of_ble_eq_true rfl), (Nat.le_of_ble_eq_true rfl)⟩ (As := []) (fun sz => kiX6) rfl hl.1 rfl (Nat.le_of_ble_eq_true rfl) dX7_init_9 ⟨(Nat.le_of_ble_eq_true rfl), (Nat.le_of_ble_eq_true rfl)⟩ (fun x2 H locs hP hD hS => ?_)
  refine W.widen (k := 7) (n := 45) (Nat.le_of_ble_eq_true rfl) (Nat.le_of_ble_eq_true rfl) ?_
  have hP : va_P (dC, dI) vwCl ((a, .inr (7, [.null, .null, .null, .null, .null, .null, .null])) :: zWd cI (kWk cI) (zx q1 x2) zZ) H := hP
  have hD : va_D A ((a, .inr (7, [.null, .null, .null, .null, .null, .null, .null])) :: zWd cI (kWk cI) (zx q1 x2) zZ) := hD
  refine va_putF (D := (dC, dI)) (ci := 7) (v := .ref q1) (C := RX7) (T := TX7) (N := 7) hx hb hU uU_X7 tyX7 tyX7_ok nmX7 hown hK hP hD hS 0 rfl rfl 0 (by decide) (hU _ uF_X7_12) (fun _ h9 => h9) rfl hin rfl (tyX7_ok 0 (by decide)) rfl rfl (Nat.le_of_ble_eq_true rfl) dX7_init_12 (fun H locs hP hD hS => ?_)
  have hP : va_P (dC, dI) vwCl ((a, .inr (7, [.ref q1, .null, .null, .null, .null, .null, .null])) :: zWd cI (kWk cI) (zx q1 x2) zZ) H := hP
  have hD : va_D A ((a, .inr (7, [.ref q1, .null, .null, .null, .null, .null, .null])) :: zWd cI (kWk cI) (zx q1 x2) zZ) := hD
  refine lv_aload_n hx hb dX7_init_15 rfl (lv_at hl 0 rfl) ?_
  refine va_new (ci := 0) (fs := [.null, .int 0, .int 0]) (C := RX0) (T := TX0) (N := 3) hx hb hU uU_X0 tyX0 tyX0_ok hown (hU _ uG_X7_16) (hU _ uM_X0) (hU _ uN_X0) hK hP hD hS hA rfl dfX0 (Nat.le_of_ble_eq_true rfl) (Nat.le_of_ble_eq_true rfl) dX7_init_16 (fun q3 H hP hD hS => ?_)
  refine W.widen (k := 8) (n := 48) (Nat.le_of_ble_eq_true rfl) (Nat.le_of_ble_eq_true rfl) ?_
  refine lv_dup hx hb dX7_init_19 rfl ?_
  refine z_kcallI hx hb hml hown hU hK hM (W0 := (a, .inr (7, [.ref q1, .null, .null, .null, .null, .null, .null])) :: zWd cI (kWk cI) (zx q1 x2) zZ) (a1 := q3) (sh := (kHis cI)) (S1 := zZ) hP hD hS hA 0 uL_X7_18 uN_X0 uI_X0_init uC_X0_init rfl yd_X0_init rfl rfl ⟨(Nat.le_of_ble_eq_true rfl), (Nat.le_of_ble_eq_true rfl)⟩ (As := []) (fun sz => kiX0) rfl hl.1 rfl (Nat.le_of_ble_eq_true rfl) dX7_init_20 ⟨(Nat.le_of_ble_eq_true rfl), (Nat.le_of_ble_eq_true rfl)⟩ (fun x4 H locs hP hD hS => ?_)
  refine W.widen (k := 65) (n := 416) (Nat.le_of_ble_eq_true rfl) (Nat.le_of_ble_eq_true rfl) ?_
  have hP : va_P (dC, dI) vwCl ((a, .inr (7, [.ref q1, .null, .null, .null, .null, .null, .null])) :: (zWd cI (kWk cI) (zx q1 x2) zZ ++ zWd cI (kHis cI) (zx q3 x4) zZ)) H := hP
  have hD : va_D A ((a, .inr (7, [.ref q1, .null, .null, .null, .null, .null, .null])) :: (zWd cI (kWk cI) (zx q1 x2) zZ ++ zWd cI (kHis cI) (zx q3 x4) zZ)) := hD
  refine va_putF (D := (dC, dI)) (ci := 7) (v := .ref q3) (C := RX7) (T := TX7) (N := 7) hx hb hU uU_X7 tyX7 tyX7_ok nmX7 hown hK hP hD hS 0 rfl rfl 1 (by decide) (hU _ uF_X7_19) (fun _ h9 => h9) rfl hin rfl (tyX7_ok 1 (by decide)) rfl rfl (Nat.le_of_ble_eq_true rfl) dX7_init_23 (fun H locs hP hD hS => ?_)
  have hP : va_P (dC, dI) vwCl ((a, .inr (7, [.ref q1, .ref q3, .null, .null, .null, .null, .null])) :: (zWd cI (kWk cI) (zx q1 x2) zZ ++ zWd cI (kHis cI) (zx q3 x4) zZ)) H := hP
  have hD : va_D A ((a, .inr (7, [.ref q1, .ref q3, .null, .null, .null, .null, .null])) :: (zWd cI (kWk cI) (zx q1 x2) zZ ++ zWd cI (kHis cI) (zx q3 x4) zZ)) := hD
  refine lv_aload_n hx hb dX7_init_26 rfl (lv_at hl 0 rfl) ?_
  refine va_new (ci := 3) (fs := [.null, .null, .null, .null, .int 0]) (C := RX3) (T := TX3) (N := 5) hx hb hU uU_X3 tyX3 tyX3_ok hown (hU _ uG_X7_23) (hU _ uM_X3) (hU _ uN_X3) hK hP hD hS hA rfl dfX3 (Nat.le_of_ble_eq_true rfl) (Nat.le_of_ble_eq_true rfl) dX7_init_27 (fun q5 H hP hD hS => ?_)
  refine W.widen (k := 66) (n := 421) (Nat.le_of_ble_eq_true rfl) (Nat.le_of_ble_eq_true rfl) ?_
  refine lv_dup hx hb dX7_init_30 rfl ?_
  refine z_kcallN hx hb hml hown hU hK hM (W0 := (a, .inr (7, [.ref q1, .ref q3, .null, .null, .null, .null, .null])) :: (zWd cI (kWk cI) (zx q1 x2) zZ ++ zWd cI (kHis cI) (zx q3 x4) zZ)) (a1 := q5) (sh := (kRows cI)) (S1 := zZ) hP hD hS hA 0 hM.2.2.2.1 uN_X3 uI_X3_init uC_X3_init rfl yd_X3_init rfl rfl ⟨(Nat.le_of_ble_eq_true rfl), (Nat.le_of_ble_eq_true rfl)⟩ (As := []) (fun sz => kiX3) rfl hl.1 rfl (Nat.le_of_ble_eq_true rfl) dX7_init_31 ⟨(Nat.le_of_ble_eq_true rfl), (Nat.le_of_ble_eq_true rfl)⟩ (fun x6 H locs hP hD hS => ?_)
  refine W.widen (k := 97) (n := 1010) (Nat.le_of_ble_eq_true rfl) (Nat.le_of_ble_eq_true rfl) ?_
  have hP : va_P (dC, dI) vwCl ((a, .inr (7, [.ref q1, .ref q3, .null, .null, .null, .null, .null])) :: ((zWd cI (kWk cI) (zx q1 x2) zZ ++ zWd cI (kHis cI) (zx q3 x4) zZ) ++ zWd cI (kRows cI) (zx q5 x6) zZ)) H := hP
  have hD : va_D A ((a, .inr (7, [.ref q1, .ref q3, .null, .null, .null, .null, .null])) :: ((zWd cI (kWk cI) (zx q1 x2) zZ ++ zWd cI (kHis cI) (zx q3 x4) zZ) ++ zWd cI (kRows cI) (zx q5 x6) zZ)) := hD
  refine va_putF (D := (dC, dI)) (ci := 7) (v := .ref q5) (C := RX7) (T := TX7) (N := 7) hx hb hU uU_X7 tyX7 tyX7_ok nmX7 hown hK hP hD hS 0 rfl rfl 2 (by decide) (hU _ uF_X7_26) (fun _ h9 => h9) rfl hin rfl (tyX7_ok 2 (by decide)) rfl rfl (Nat.le_of_ble_eq_true rfl) dX7_init_34 (fun H locs hP hD hS => ?_)
  have hP : va_P (dC, dI) vwCl ((a, .inr (7, [.ref q1, .ref q3, .ref q5, .null, .null, .null, .null])) :: ((zWd cI (kWk cI) (zx q1 x2) zZ ++ zWd cI (kHis cI) (zx q3 x4) zZ) ++ zWd cI (kRows cI) (zx q5 x6) zZ)) H := hP
  have hD : va_D A ((a, .inr (7, [.ref q1, .ref q3, .ref q5, .null, .null, .null, .null])) :: ((zWd cI (kWk cI) (zx q1 x2) zZ ++ zWd cI (kHis cI) (zx q3 x4) zZ) ++ zWd cI (kRows cI) (zx q5 x6) zZ)) := hD
  refine lv_aload_n hx hb dX7_init_37 rfl (lv_at hl 0 rfl) ?_
  refine lv_aload_n hx hb dX7_init_38 rfl (lv_at hl 0 rfl) ?_
  refine va_get (D := (dC, dI)) (ci := 7) (v := .ref q5) (C := RX7) (T := TX7) (N := 7) hx hb hU uU_X7 hown hK hP 0 rfl rfl 2 (by decide) (hU _ uF_X7_26) (fun _ h9 => h9) rfl dX7_init_39 ?_
  refine va_get (D := (dC, dI)) (ci := 3) (v := .ref ((zx q5 x6) 1)) (C := RX3) (T := TX3) (N := 5) hx hb hU uU_X3 hown hK hP 66 rfl rfl 0 (by decide) (hU _ uF_X7_30) (fun _ h9 => h9) rfl dX7_init_42 ?_
  refine va_putF (D := (dC, dI)) (ci := 7) (v := .ref ((zx q5 x6) 1)) (C := RX7) (T := TX7) (N := 7) hx hb hU uU_X7 tyX7 tyX7_ok nmX7 hown hK hP hD hS 0 rfl rfl 3 (by decide) (hU _ uF_X7_34) (fun _ h9 => h9) rfl hin rfl (tyX7_ok 3 (by decide)) rfl rfl (Nat.le_of_ble_eq_true rfl) dX7_init_45 (fun H locs hP hD hS => ?_)
  have hP : va_P (dC, dI) vwCl ((a, .inr (7, [.ref q1, .ref q3, .ref q5, .ref ((zx q5 x6) 1), .null, .null, .null])) :: ((zWd cI (kWk cI) (zx q1 x2) zZ ++ zWd cI (kHis cI) (zx q3 x4) zZ) ++ zWd cI (kRows cI) (zx q5 x6) zZ)) H := hP
  have hD : va_D A ((a, .inr (7, [.ref q1, .ref q3, .ref q5, .ref ((zx q5 x6) 1), .null, .null, .null])) :: ((zWd cI (kWk cI) (zx q1 x2) zZ ++ zWd cI (kHis cI) (zx q3 x4) zZ) ++ zWd cI (kRows cI) (zx q5 x6) zZ)) := hD
  refine lv_aload_n hx hb dX7_init_48 rfl (lv_at hl 0 rfl) ?_
  refine lv_aload_n hx hb dX7_init_49 rfl (lv_at hl 0 rfl) ?_
  refine va_get (D := (dC, dI)) (ci := 7) (v := .ref ((zx q5 x6) 1)) (C := RX7) (T := TX7) (N := 7) hx hb hU uU_X7 hown hK hP 0 rfl rfl 3 (by decide) (hU _ uF_X7_34) (fun _ h9 => h9) rfl dX7_init_50 ?_
  refine va_get (D := (dC, dI)) (ci := 5) (v := .ref ((zx q5 x6) 2)) (C := RX5) (T := TX5) (N := 7) hx hb hU uU_X5 hown hK hP 67 rfl rfl 0 (by decide) (hU _ uF_X7_35) (fun _ h9 => h9) rfl dX7_init_53 ?_
  refine va_putF (D := (dC, dI)) (ci := 7) (v := .ref ((zx q5 x6) 2)) (C := RX7) (T := TX7) (N := 7) hx hb hU uU_X7 tyX7 tyX7_ok nmX7 hown hK hP hD hS 0 rfl rfl 4 (by decide) (hU _ uF_X7_40) (fun _ h9 => h9) rfl hin rfl (tyX7_ok 4 (by decide)) rfl rfl (Nat.le_of_ble_eq_true rfl) dX7_init_56 (fun H locs hP hD hS => ?_)
  have hP : va_P (dC, dI) vwCl ((a, .inr (7, [.ref q1, .ref q3, .ref q5, .ref ((zx q5 x6) 1), .ref ((zx q5 x6) 2), .null, .null])) :: ((zWd cI (kWk cI) (zx q1 x2) zZ ++ zWd cI (kHis cI) (zx q3 x4) zZ) ++ zWd cI (kRows cI) (zx q5 x6) zZ)) H := hP
  have hD : va_D A ((a, .inr (7, [.ref q1, .ref q3, .ref q5, .ref ((zx q5 x6) 1), .ref ((zx q5 x6) 2), .null, .null])) :: ((zWd cI (kWk cI) (zx q1 x2) zZ ++ zWd cI (kHis cI) (zx q3 x4) zZ) ++ zWd cI (kRows cI) (zx q5 x6) zZ)) := hD
  refine lv_aload_n hx hb dX7_init_59 rfl (lv_at hl 0 rfl) ?_
  refine va_new (ci := 1) (fs := [.long 0, .long 0]) (C := RX1) (T := TX1) (N := 2) hx hb hU uU_X1 tyX1 tyX1_ok hown (hU _ uG_X7_43) (hU _ uM_X1) (hU _ uN_X1) hK hP hD hS hA rfl dfX1 (Nat.le_of_ble_eq_true rfl) (Nat.le_of_ble_eq_true rfl) dX7_init_60 (fun q7 H hP hD hS => ?_)
  refine W.widen (k := 98) (n := 1012) (Nat.le_of_ble_eq_true rfl) (Nat.le_of_ble_eq_true rfl) ?_
  refine lv_dup hx hb dX7_init_63 rfl ?_
  refine z_kcallN hx hb hml hown hU hK hM (W0 := (a, .inr (7, [.ref q1, .ref q3, .ref q5, .ref ((zx q5 x6) 1), .ref ((zx q5 x6) 2), .null, .null])) :: ((zWd cI (kWk cI) (zx q1 x2) zZ ++ zWd cI (kHis cI) (zx q3 x4) zZ) ++ zWd cI (kRows cI) (zx q5 x6) zZ)) (a1 := q7) (sh := (kRat cI)) (S1 := zZ) hP hD hS hA 0 hM.2.2.2.2.2.2.2.2.2.1 uN_X1 uI_X1_init uC_X1_init rfl yd_X1_init rfl rfl ⟨(Nat.le_of_ble_eq_true rfl), (Nat.le_of_ble_eq_true rfl)⟩ (As := []) (fun sz => kiX1) rfl hl.1 rfl (Nat.le_of_ble_eq_true rfl) dX7_init_64 ⟨(Nat.le_of_ble_eq_true rfl), (Nat.le_of_ble_eq_true rfl)⟩ (fun x8 H locs hP hD hS => ?_)
  refine W.widen (k := 98) (n := 1012) (Nat.le_of_ble_eq_true rfl) (Nat.le_of_ble_eq_true rfl) ?_
  have hP : va_P (dC, dI) vwCl ((a, .inr (7, [.ref q1, .ref q3, .ref q5, .ref ((zx q5 x6) 1), .ref ((zx q5 x6) 2), .null, .null])) :: (((zWd cI (kWk cI) (zx q1 x2) zZ ++ zWd cI (kHis cI) (zx q3 x4) zZ) ++ zWd cI (kRows cI) (zx q5 x6) zZ) ++ zWd cI (kRat cI) (zx q7 x8) zZ)) H := hP
  have hD : va_D A ((a, .inr (7, [.ref q1, .ref q3, .ref q5, .ref ((zx q5 x6) 1), .ref ((zx q5 x6) 2), .null, .null])) :: (((zWd cI (kWk cI) (zx q1 x2) zZ ++ zWd cI (kHis cI) (zx q3 x4) zZ) ++ zWd cI (kRows cI) (zx q5 x6) zZ) ++ zWd cI (kRat cI) (zx q7 x8) zZ)) := hD
  refine va_putF (D := (dC, dI)) (ci := 7) (v := .ref q7) (C := RX7) (T := TX7) (N := 7) hx hb hU uU_X7 tyX7 tyX7_ok nmX7 hown hK hP hD hS 0 rfl rfl 5 (by decide) (hU _ uF_X7_46) (fun _ h9 => h9) rfl hin rfl (tyX7_ok 5 (by decide)) rfl rfl (Nat.le_of_ble_eq_true rfl) dX7_init_67 (fun H locs hP hD hS => ?_)
  have hP : va_P (dC, dI) vwCl ((a, .inr (7, [.ref q1, .ref q3, .ref q5, .ref ((zx q5 x6) 1), .ref ((zx q5 x6) 2), .ref q7, .null])) :: (((zWd cI (kWk cI) (zx q1 x2) zZ ++ zWd cI (kHis cI) (zx q3 x4) zZ) ++ zWd cI (kRows cI) (zx q5 x6) zZ) ++ zWd cI (kRat cI) (zx q7 x8) zZ)) H := hP
  have hD : va_D A ((a, .inr (7, [.ref q1, .ref q3, .ref q5, .ref ((zx q5 x6) 1), .ref ((zx q5 x6) 2), .ref q7, .null])) :: (((zWd cI (kWk cI) (zx q1 x2) zZ ++ zWd cI (kHis cI) (zx q3 x4) zZ) ++ zWd cI (kRows cI) (zx q5 x6) zZ) ++ zWd cI (kRat cI) (zx q7 x8) zZ)) := hD
  refine lv_aload_n hx hb dX7_init_70 rfl (lv_at hl 0 rfl) ?_
  refine va_new (ci := 2) (fs := [.null]) (C := RX2) (T := TX2) (N := 1) hx hb hU uU_X2 tyX2 tyX2_ok hown (hU _ uG_X7_50) (hU _ uM_X2) (hU _ uN_X2) hK hP hD hS hA rfl dfX2 (Nat.le_of_ble_eq_true rfl) (Nat.le_of_ble_eq_true rfl) dX7_init_71 (fun q9 H hP hD hS => ?_)
  refine W.widen (k := 99) (n := 1013) (Nat.le_of_ble_eq_true rfl) (Nat.le_of_ble_eq_true rfl) ?_
  refine lv_dup hx hb dX7_init_74 rfl ?_
  refine lv_sipush (v := 256) hx hb dX7_init_75 rfl ?_
  refine z_kcallI hx hb hml hown hU hK hM (W0 := (a, .inr (7, [.ref q1, .ref q3, .ref q5, .ref ((zx q5 x6) 1), .ref ((zx q5 x6) 2), .ref q7, .null])) :: (((zWd cI (kWk cI) (zx q1 x2) zZ ++ zWd cI (kHis cI) (zx q3 x4) zZ) ++ zWd cI (kRows cI) (zx q5 x6) zZ) ++ zWd cI (kRat cI) (zx q7 x8) zZ)) (a1 := q9) (sh := (kRow cI 256)) (S1 := zZ) hP hD hS hA 1 uL_X7_52 uN_X2 uI_X2_init uC_X2_init rfl yd_X2_init rfl rfl ⟨(Nat.le_of_ble_eq_true rfl), (Nat.le_of_ble_eq_true rfl)⟩ (As := [.int 256]) (fun sz => kiX2 (v := 256) (n := 256) (by decide) (by decide) (by decide)) rfl hl.1 rfl (Nat.le_of_ble_eq_true rfl) dX7_init_78 ⟨(Nat.le_of_ble_eq_true rfl), (Nat.le_of_ble_eq_true rfl)⟩ (fun x10 H locs hP hD hS => ?_)
  refine W.widen (k := 100) (n := 1269) (Nat.le_of_ble_eq_true rfl) (Nat.le_of_ble_eq_true rfl) ?_
  have hP : va_P (dC, dI) vwCl ((a, .inr (7, [.ref q1, .ref q3, .ref q5, .ref ((zx q5 x6) 1), .ref ((zx q5 x6) 2), .ref q7, .null])) :: ((((zWd cI (kWk cI) (zx q1 x2) zZ ++ zWd cI (kHis cI) (zx q3 x4) zZ) ++ zWd cI (kRows cI) (zx q5 x6) zZ) ++ zWd cI (kRat cI) (zx q7 x8) zZ) ++ zWd cI (kRow cI 256) (zx q9 x10) zZ)) H := hP
  have hD : va_D A ((a, .inr (7, [.ref q1, .ref q3, .ref q5, .ref ((zx q5 x6) 1), .ref ((zx q5 x6) 2), .ref q7, .null])) :: ((((zWd cI (kWk cI) (zx q1 x2) zZ ++ zWd cI (kHis cI) (zx q3 x4) zZ) ++ zWd cI (kRows cI) (zx q5 x6) zZ) ++ zWd cI (kRat cI) (zx q7 x8) zZ) ++ zWd cI (kRow cI 256) (zx q9 x10) zZ)) := hD
  refine va_putF (D := (dC, dI)) (ci := 7) (v := .ref q9) (C := RX7) (T := TX7) (N := 7) hx hb hU uU_X7 tyX7 tyX7_ok nmX7 hown hK hP hD hS 0 rfl rfl 6 (by decide) (hU _ uF_X7_55) (fun _ h9 => h9) rfl hin rfl (tyX7_ok 6 (by decide)) rfl rfl (Nat.le_of_ble_eq_true rfl) dX7_init_81 (fun H locs hP hD hS => ?_)
  have hP : va_P (dC, dI) vwCl ((a, .inr (7, [.ref q1, .ref q3, .ref q5, .ref ((zx q5 x6) 1), .ref ((zx q5 x6) 2), .ref q7, .ref q9])) :: ((((zWd cI (kWk cI) (zx q1 x2) zZ ++ zWd cI (kHis cI) (zx q3 x4) zZ) ++ zWd cI (kRows cI) (zx q5 x6) zZ) ++ zWd cI (kRat cI) (zx q7 x8) zZ) ++ zWd cI (kRow cI 256) (zx q9 x10) zZ)) H := hP
  have hD : va_D A ((a, .inr (7, [.ref q1, .ref q3, .ref q5, .ref ((zx q5 x6) 1), .ref ((zx q5 x6) 2), .ref q7, .ref q9])) :: ((((zWd cI (kWk cI) (zx q1 x2) zZ ++ zWd cI (kHis cI) (zx q3 x4) zZ) ++ zWd cI (kRows cI) (zx q5 x6) zZ) ++ zWd cI (kRat cI) (zx q7 x8) zZ) ++ zWd cI (kRow cI 256) (zx q9 x10) zZ)) := hD
  refine lv_aload_n hx hb dX7_init_84 rfl (lv_at hl 0 rfl) ?_
  refine va_get (D := (dC, dI)) (ci := 7) (v := .ref q1) (C := RX7) (T := TX7) (N := 7) hx hb hU uU_X7 hown hK hP 0 rfl rfl 0 (by decide) (hU _ uF_X7_12) (fun _ h9 => h9) rfl dX7_init_85 ?_
  refine lv_iconst (v := 4) hx hb dX7_init_88 rfl ?_
  refine lv_iconst (v := 0) hx hb dX7_init_89 rfl ?_
  refine z_kmake hx hb hml hown hU hK hM (own := (a, .inr (7, [.ref q1, .ref q3, .ref q5, .ref ((zx q5 x6) 1), .ref ((zx q5 x6) 2), .ref q7, .ref q9]))) (x := zx q1 x2) (V := (zWd cI (kHis cI) (zx q3 x4) zZ ++ (zWd cI (kRows cI) (zx q5 x6) zZ ++ (zWd cI (kRat cI) (zx q7 x8) zZ ++ zWd cI (kRow cI 256) (zx q9 x10) zZ)))) (S1 := S1) (by simpa only [List.append_assoc] using hP) (by simpa only [List.append_assoc] using hD) hS hF ⟨(Nat.le_of_ble_eq_true rfl), (Nat.le_of_ble_eq_true rfl)⟩ hl.1 (Nat.le_of_ble_eq_true rfl) dX7_init_90 ⟨(Nat.le_of_ble_eq_true rfl), (Nat.le_of_ble_eq_true rfl)⟩ (fun H locs hP hD hS => ?_)
  obtain ⟨x, hxe⟩ : ∃ x : Nat → Nat, x = (fun k => if k = 0 then a else if k < 8 then (zx q1 x2) (k - 1) else if k < 66 then (zx q3 x4) (k - 8) else if k < 98 then (zx q5 x6) (k - 66) else if k < 99 then (zx q7 x8) (k - 98) else (zx q9 x10) (k - 99)) := ⟨_, rfl⟩
  have hfg : ∀ j, j < 8 → some (zx q3 x4 (2 + 7 * j)) = some (x (10 + 7 * j)) := by
    intro j hj
    subst hxe
    rcases (show j = 0 ∨ j = 1 ∨ j = 2 ∨ j = 3 ∨ j = 4 ∨ j = 5 ∨ j = 6 ∨ j = 7 by omega) with rfl | rfl | rfl | rfl | rfl | rfl | rfl | rfl <;> rfl
  replace hP := z_arrqK (k := 9) (q1 := zx q3 x4 1) (cA := cI.2) (f := fun j => some (zx q3 x4 (2 + 7 * j))) (g := fun j => some (x (10 + 7 * j))) rfl hfg hP
  replace hD := z_setD (k := 9) (q1 := zx q3 x4 1) (e1 := .inl (cI.2, 8, .inr (.inr (.inr (.inr (fun j => some (zx q3 x4 (2 + 7 * j)))))))) (e2 := .inl (cI.2, 8, .inr (.inr (.inr (.inr (fun j => some (x (10 + 7 * j)))))))) rfl hD
  exact z_kret hx hb hlocks hP hD hS hQ hAe hr dX7_init_93 x (by subst hxe; rfl) (by subst hxe; rfl)
