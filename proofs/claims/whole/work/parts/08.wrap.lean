section ZW
variable {p : Program} {l : Launch} {e : Env} {R : Room} {s : State} {m : MethodId} {args : Array Value} {below : List Frame} {meth : Method} {c : Code} {H : Heap} {locs : List Loc} {cells slots : Nat} {Q : State → Prop}
variable {pc : Nat} {ls : Array Slot} {rest st : List Value} {cc : ByteArray} {T : Type} {o : T} {H0 : Heap}
variable {dC : Nat → ClassId} {dI : Nat → Nat → Nat} {cI : ClassId × ClassId} {cW : List zSh} {q : Nat → Nat} {S : zT}
theorem z_if_eq (hx : p.tables.exec = Jvm.exec) (hb : c.code = cc) {x : Int32} {off : Int} {tgt : Nat} (hd : decode cc pc = .ok (.ifCond .eq off, 3)) (ht : (pc : Int) + off = (tgt : Int)) {a b : Option T} {i : Decidable (x = 0)} (h : (@ite _ (x = 0) i a b) = some o)
    (kt : a = some o → W p l e R s m args below meth c H locs cells slots Q (F0 m tgt ls rest)) (kf : b = some o → W p l e R s m args below meth c H locs cells slots Q (F0 m (pc + 3) ls rest)) : W p l e R s m args below meth c H locs cells slots Q (F0 m pc ls (.int x :: rest)) :=
  lv_if_eq hx hb hd ht (fun c => kt (zif_t c h)) (fun c => kf (zif_f c h))
theorem z_if_ne (hx : p.tables.exec = Jvm.exec) (hb : c.code = cc) {x : Int32} {off : Int} {tgt : Nat} (hd : decode cc pc = .ok (.ifCond .ne off, 3)) (ht : (pc : Int) + off = (tgt : Int)) {a b : Option T} {i : Decidable (x = 0)} (h : (@ite _ (x = 0) i a b) = some o)
    (kt : b = some o → W p l e R s m args below meth c H locs cells slots Q (F0 m tgt ls rest)) (kf : a = some o → W p l e R s m args below meth c H locs cells slots Q (F0 m (pc + 3) ls rest)) : W p l e R s m args below meth c H locs cells slots Q (F0 m pc ls (.int x :: rest)) :=
  lv_if_ne hx hb hd ht (fun c => kt (zif_f c h)) (fun c => kf (zif_t c h))
theorem z_if_lt (hx : p.tables.exec = Jvm.exec) (hb : c.code = cc) {x : Int32} {off : Int} {tgt : Nat} (hd : decode cc pc = .ok (.ifCond .lt off, 3)) (ht : (pc : Int) + off = (tgt : Int)) {a b : Option T} {i : Decidable (x < 0)} (h : (@ite _ (x < 0) i a b) = some o)
    (kt : a = some o → W p l e R s m args below meth c H locs cells slots Q (F0 m tgt ls rest)) (kf : b = some o → W p l e R s m args below meth c H locs cells slots Q (F0 m (pc + 3) ls rest)) : W p l e R s m args below meth c H locs cells slots Q (F0 m pc ls (.int x :: rest)) :=
  lv_if_lt hx hb hd ht (fun c => kt (zif_t c h)) (fun c => kf (zif_f c h))
theorem z_if_ge (hx : p.tables.exec = Jvm.exec) (hb : c.code = cc) {x : Int32} {off : Int} {tgt : Nat} (hd : decode cc pc = .ok (.ifCond .ge off, 3)) (ht : (pc : Int) + off = (tgt : Int)) {a b : Option T} {i : Decidable (0 ≤ x)} (h : (@ite _ (0 ≤ x) i a b) = some o)
    (kt : a = some o → W p l e R s m args below meth c H locs cells slots Q (F0 m tgt ls rest)) (kf : b = some o → W p l e R s m args below meth c H locs cells slots Q (F0 m (pc + 3) ls rest)) : W p l e R s m args below meth c H locs cells slots Q (F0 m pc ls (.int x :: rest)) :=
  lv_if_ge hx hb hd ht (fun c => kt (zif_t c h)) (fun c => kf (zif_f c h))
theorem z_if_gt (hx : p.tables.exec = Jvm.exec) (hb : c.code = cc) {x : Int32} {off : Int} {tgt : Nat} (hd : decode cc pc = .ok (.ifCond .gt off, 3)) (ht : (pc : Int) + off = (tgt : Int)) {a b : Option T} {i : Decidable (0 < x)} (h : (@ite _ (0 < x) i a b) = some o)
    (kt : a = some o → W p l e R s m args below meth c H locs cells slots Q (F0 m tgt ls rest)) (kf : b = some o → W p l e R s m args below meth c H locs cells slots Q (F0 m (pc + 3) ls rest)) : W p l e R s m args below meth c H locs cells slots Q (F0 m pc ls (.int x :: rest)) :=
  lv_if_gt hx hb hd ht (fun c => kt (zif_t c h)) (fun c => kf (zif_f c h))
theorem z_if_le (hx : p.tables.exec = Jvm.exec) (hb : c.code = cc) {x : Int32} {off : Int} {tgt : Nat} (hd : decode cc pc = .ok (.ifCond .le off, 3)) (ht : (pc : Int) + off = (tgt : Int)) {a b : Option T} {i : Decidable (x ≤ 0)} (h : (@ite _ (x ≤ 0) i a b) = some o)
    (kt : a = some o → W p l e R s m args below meth c H locs cells slots Q (F0 m tgt ls rest)) (kf : b = some o → W p l e R s m args below meth c H locs cells slots Q (F0 m (pc + 3) ls rest)) : W p l e R s m args below meth c H locs cells slots Q (F0 m pc ls (.int x :: rest)) :=
  lv_if_le hx hb hd ht (fun c => kt (zif_t c h)) (fun c => kf (zif_f c h))
theorem z_icmp_eq (hx : p.tables.exec = Jvm.exec) (hb : c.code = cc) {x y : Int32} {off : Int} {tgt : Nat} (hd : decode cc pc = .ok (.if_icmp .eq off, 3)) (ht : (pc : Int) + off = (tgt : Int)) {a b : Option T} {i : Decidable (x = y)} (h : (@ite _ (x = y) i a b) = some o)
    (kt : a = some o → W p l e R s m args below meth c H locs cells slots Q (F0 m tgt ls rest)) (kf : b = some o → W p l e R s m args below meth c H locs cells slots Q (F0 m (pc + 3) ls rest)) : W p l e R s m args below meth c H locs cells slots Q (F0 m pc ls (.int y :: .int x :: rest)) :=
  lv_icmp_eq hx hb hd ht (fun c => kt (zif_t c h)) (fun c => kf (zif_f c h))
theorem z_icmp_ne (hx : p.tables.exec = Jvm.exec) (hb : c.code = cc) {x y : Int32} {off : Int} {tgt : Nat} (hd : decode cc pc = .ok (.if_icmp .ne off, 3)) (ht : (pc : Int) + off = (tgt : Int)) {a b : Option T} {i : Decidable (x = y)} (h : (@ite _ (x = y) i a b) = some o)
    (kt : b = some o → W p l e R s m args below meth c H locs cells slots Q (F0 m tgt ls rest)) (kf : a = some o → W p l e R s m args below meth c H locs cells slots Q (F0 m (pc + 3) ls rest)) : W p l e R s m args below meth c H locs cells slots Q (F0 m pc ls (.int y :: .int x :: rest)) :=
  lv_icmp_ne hx hb hd ht (fun c => kt (zif_f c h)) (fun c => kf (zif_t c h))
theorem z_icmp_lt (hx : p.tables.exec = Jvm.exec) (hb : c.code = cc) {x y : Int32} {off : Int} {tgt : Nat} (hd : decode cc pc = .ok (.if_icmp .lt off, 3)) (ht : (pc : Int) + off = (tgt : Int)) {a b : Option T} {i : Decidable (x < y)} (h : (@ite _ (x < y) i a b) = some o)
    (kt : a = some o → W p l e R s m args below meth c H locs cells slots Q (F0 m tgt ls rest)) (kf : b = some o → W p l e R s m args below meth c H locs cells slots Q (F0 m (pc + 3) ls rest)) : W p l e R s m args below meth c H locs cells slots Q (F0 m pc ls (.int y :: .int x :: rest)) :=
  lv_icmp_lt hx hb hd ht (fun c => kt (zif_t c h)) (fun c => kf (zif_f c h))
theorem z_icmp_ge (hx : p.tables.exec = Jvm.exec) (hb : c.code = cc) {x y : Int32} {off : Int} {tgt : Nat} (hd : decode cc pc = .ok (.if_icmp .ge off, 3)) (ht : (pc : Int) + off = (tgt : Int)) {a b : Option T} {i : Decidable (y ≤ x)} (h : (@ite _ (y ≤ x) i a b) = some o)
    (kt : a = some o → W p l e R s m args below meth c H locs cells slots Q (F0 m tgt ls rest)) (kf : b = some o → W p l e R s m args below meth c H locs cells slots Q (F0 m (pc + 3) ls rest)) : W p l e R s m args below meth c H locs cells slots Q (F0 m pc ls (.int y :: .int x :: rest)) :=
  lv_icmp_ge hx hb hd ht (fun c => kt (zif_t c h)) (fun c => kf (zif_f c h))
theorem z_icmp_gt (hx : p.tables.exec = Jvm.exec) (hb : c.code = cc) {x y : Int32} {off : Int} {tgt : Nat} (hd : decode cc pc = .ok (.if_icmp .gt off, 3)) (ht : (pc : Int) + off = (tgt : Int)) {a b : Option T} {i : Decidable (y < x)} (h : (@ite _ (y < x) i a b) = some o)
    (kt : a = some o → W p l e R s m args below meth c H locs cells slots Q (F0 m tgt ls rest)) (kf : b = some o → W p l e R s m args below meth c H locs cells slots Q (F0 m (pc + 3) ls rest)) : W p l e R s m args below meth c H locs cells slots Q (F0 m pc ls (.int y :: .int x :: rest)) :=
  lv_icmp_gt hx hb hd ht (fun c => kt (zif_t c h)) (fun c => kf (zif_f c h))
theorem z_icmp_le (hx : p.tables.exec = Jvm.exec) (hb : c.code = cc) {x y : Int32} {off : Int} {tgt : Nat} (hd : decode cc pc = .ok (.if_icmp .le off, 3)) (ht : (pc : Int) + off = (tgt : Int)) {a b : Option T} {i : Decidable (x ≤ y)} (h : (@ite _ (x ≤ y) i a b) = some o)
    (kt : a = some o → W p l e R s m args below meth c H locs cells slots Q (F0 m tgt ls rest)) (kf : b = some o → W p l e R s m args below meth c H locs cells slots Q (F0 m (pc + 3) ls rest)) : W p l e R s m args below meth c H locs cells slots Q (F0 m pc ls (.int y :: .int x :: rest)) :=
  lv_icmp_le hx hb hd ht (fun c => kt (zif_t c h)) (fun c => kf (zif_f c h))
theorem z_idiv (hx : p.tables.exec = Jvm.exec) (hb : c.code = cc) {x y : Int32} (hd : decode cc pc = .ok (.idiv, 1)) {a : Option T} {i : Decidable (¬ y = 0)} (h : (@ite _ (¬ y = 0) i a none) = some o)
    (kk : a = some o → W p l e R s m args below meth c H locs cells slots Q (F0 m (pc + 1) ls (.int (x / y) :: rest))) : W p l e R s m args below meth c H locs cells slots Q (F0 m pc ls (.int y :: .int x :: rest)) :=
  lv_idiv hx hb hd (zif_g h).1 (kk (zif_g h).2)
theorem z_irem (hx : p.tables.exec = Jvm.exec) (hb : c.code = cc) {x y : Int32} (hd : decode cc pc = .ok (.irem, 1)) {a : Option T} {i : Decidable (¬ y = 0)} (h : (@ite _ (¬ y = 0) i a none) = some o)
    (kk : a = some o → W p l e R s m args below meth c H locs cells slots Q (F0 m (pc + 1) ls (.int (x - x / y * y) :: rest))) : W p l e R s m args below meth c H locs cells slots Q (F0 m pc ls (.int y :: .int x :: rest)) :=
  lv_irem hx hb hd (zif_g h).1 (kk (zif_g h).2)
theorem z_ldiv (hx : p.tables.exec = Jvm.exec) (hb : c.code = cc) {x y : Int64} (hd : decode cc pc = .ok (.ldiv, 1)) {a : Option T} {i : Decidable (¬ y = 0)} (h : (@ite _ (¬ y = 0) i a none) = some o)
    (kk : a = some o → W p l e R s m args below meth c H locs cells slots Q (F0 m (pc + 1) ls (.long (x / y) :: rest))) : W p l e R s m args below meth c H locs cells slots Q (F0 m pc ls (.long y :: .long x :: rest)) :=
  lv_ldiv hx hb hd (zif_g h).1 (kk (zif_g h).2)
theorem z_lrem (hx : p.tables.exec = Jvm.exec) (hb : c.code = cc) {x y : Int64} (hd : decode cc pc = .ok (.lrem, 1)) {a : Option T} {i : Decidable (¬ y = 0)} (h : (@ite _ (¬ y = 0) i a none) = some o)
    (kk : a = some o → W p l e R s m args below meth c H locs cells slots Q (F0 m (pc + 1) ls (.long (x - x / y * y) :: rest))) : W p l e R s m args below meth c H locs cells slots Q (F0 m pc ls (.long y :: .long x :: rest)) :=
  lv_lrem hx hb hd (zif_g h).1 (kk (zif_g h).2)
theorem z_get (hx : p.tables.exec = Jvm.exec) (hb : c.code = cc) {own C : String} {Tb : u_T} {N ci index : Nat} {Ts : List Cond} (hts : ∀ w ∈ Ts, w.before args s = true) (hin : ∀ w ∈ u_ws C Tb N, w ∈ Ts) (hown : s.vm.findClass own = some m.cls) (hK : va_K (dC, dI) vwCl (zty cI) s) (hP : va_P (dC, dI) vwCl (zWd cI cW q S) H) {k : Nat} {f : zSh} (hf : cW[k]? = some f) {fs : List Value} (he : f q (S.1 k) (S.2 k) = .inr (ci, fs)) (hc : vwCl[ci]? = some (C, Tb, N)) (j : Nat) (hj : j < N) (hlink : (Cond.fieldLink own index (Tb j).1 (Tb j).2.1 (Tb j).2.2.1).before args s = true) {v : Value} (hv : fs[j]? = some v) (hd : decode cc pc = .ok (.getfield index, 3))
    (kk : W p l e R s m args below meth c H locs cells slots Q (F0 m (pc + 3) ls (v :: rest))) : W p l e R s m args below meth c H locs cells slots Q (F0 m pc ls (.ref (q k) :: rest)) :=
  va_get hx hb hts hin hown hK hP k (by rw [zWd_get hf, he]) hc j hj hlink (fun _ h9 => h9) hv hd kk
theorem z_puti (hx : p.tables.exec = Jvm.exec) (hb : c.code = cc) {own C : String} {Tb : u_T} {N ci index : Nat} {Ts : List Cond} (hts : ∀ w ∈ Ts, w.before args s = true) (hin : ∀ w ∈ u_ws C Tb N, w ∈ Ts) (ty0 : Nat → FieldType) (hty : ∀ k, k < N → parseFieldDescriptor (Tb k).2.2.1 = some (ty0 k)) (hnm : ∀ a, a < N → ∀ b, b < N → a ≠ b → (Tb a).2.1 ≠ (Tb b).2.1) (hown : s.vm.findClass own = some m.cls) (hq : zI cW q) (hK : va_K (dC, dI) vwCl (zty cI) s) (hP : va_P (dC, dI) vwCl (zWd cI cW q S) H) (hS : va_S (zA cW q) H0 H locs) {k : Nat} {f : zSh} (hf : cW[k]? = some f) {fs : List Value} (he : f q (S.1 k) (S.2 k) = .inr (ci, fs)) (hc : vwCl[ci]? = some (C, Tb, N)) (j : Nat) (hj : j < N) (hlink : (Cond.fieldLink own index (Tb j).1 (Tb j).2.1 (Tb j).2.2.1).before args s = true) (hfin : (Tb j).2.2.2 = false) {v : Int32} (hn : narrow (ty0 j) (.int v) = .int v) (hfit : fits (ty0 j) (.int v) = true) (hl : j < fs.length) (hset : f q (upd (S.1 k) j v) (S.2 k) = .inr (ci, fs.set j (.int v))) (hd : decode cc pc = .ok (.putfield index, 3))
    {g : zT → Option T} (h : zlet (zsi S k j v) g = some o)
    (kk : ∀ (S1 : zT) (H1 : Heap) (locs1 : List Loc), va_P (dC, dI) vwCl (zWd cI cW q S1) H1 → va_S (zA cW q) H0 H1 locs1 → g S1 = some o → W p l e R s m args below meth c H1 locs1 cells slots Q (F0 m (pc + 3) ls rest)) : W p l e R s m args below meth c H locs cells slots Q (F0 m pc ls (.int v :: .ref (q k) :: rest)) := by
  refine va_put hx hb hts hin ty0 hty hnm hown hK hP (zWd_D hq S) hS k (by rw [zWd_get hf, he]) hc j hj hlink (fun _ h9 => h9) hfin (hty j hj) hn hfit hl hd (fun H1 locs1 hP1 _ hS1 => ?_)
  rw [zWd_set (S := S) (S' := zsi S k j v) hf (by rw [zsi_k, zsi_2]; exact hset.symm) (fun k' hk => zsi_n j v hk) (fun k' _ => rfl)] at hP1
  exact kk _ H1 locs1 hP1 hS1 h
theorem z_putl (hx : p.tables.exec = Jvm.exec) (hb : c.code = cc) {own C : String} {Tb : u_T} {N ci index : Nat} {Ts : List Cond} (hts : ∀ w ∈ Ts, w.before args s = true) (hin : ∀ w ∈ u_ws C Tb N, w ∈ Ts) (ty0 : Nat → FieldType) (hty : ∀ k, k < N → parseFieldDescriptor (Tb k).2.2.1 = some (ty0 k)) (hnm : ∀ a, a < N → ∀ b, b < N → a ≠ b → (Tb a).2.1 ≠ (Tb b).2.1) (hown : s.vm.findClass own = some m.cls) (hq : zI cW q) (hK : va_K (dC, dI) vwCl (zty cI) s) (hP : va_P (dC, dI) vwCl (zWd cI cW q S) H) (hS : va_S (zA cW q) H0 H locs) {k : Nat} {f : zSh} (hf : cW[k]? = some f) {fs : List Value} (he : f q (S.1 k) (S.2 k) = .inr (ci, fs)) (hc : vwCl[ci]? = some (C, Tb, N)) (j : Nat) (hj : j < N) (hlink : (Cond.fieldLink own index (Tb j).1 (Tb j).2.1 (Tb j).2.2.1).before args s = true) (hfin : (Tb j).2.2.2 = false) {v : Int64} (hn : narrow (ty0 j) (.long v) = .long v) (hfit : fits (ty0 j) (.long v) = true) (hl : j < fs.length) (hset : f q (S.1 k) (vp_updL (S.2 k) j v) = .inr (ci, fs.set j (.long v))) (hd : decode cc pc = .ok (.putfield index, 3))
    {g : zT → Option T} (h : zlet (zsl S k j v) g = some o)
    (kk : ∀ (S1 : zT) (H1 : Heap) (locs1 : List Loc), va_P (dC, dI) vwCl (zWd cI cW q S1) H1 → va_S (zA cW q) H0 H1 locs1 → g S1 = some o → W p l e R s m args below meth c H1 locs1 cells slots Q (F0 m (pc + 3) ls rest)) : W p l e R s m args below meth c H locs cells slots Q (F0 m pc ls (.long v :: .ref (q k) :: rest)) := by
  refine va_put hx hb hts hin ty0 hty hnm hown hK hP (zWd_D hq S) hS k (by rw [zWd_get hf, he]) hc j hj hlink (fun _ h9 => h9) hfin (hty j hj) hn hfit hl hd (fun H1 locs1 hP1 _ hS1 => ?_)
  rw [zWd_set (S := S) (S' := zsl S k j v) hf (by rw [zsl_k, zsl_1]; exact hset.symm) (fun k' _ => rfl) (fun k' hk => zsl_n j v hk)] at hP1
  exact kk _ H1 locs1 hP1 hS1 h
theorem z_iald (hx : p.tables.exec = Jvm.exec) (hb : c.code = cc) (hK : va_K (dC, dI) vwCl (zty cI) s) (hP : va_P (dC, dI) vwCl (zWd cI cW q S) H) {k n : Nat} (hf : cW[k]? = some (sArr cI n)) {x : Int32} (hd : decode cc pc = .ok (.iaload, 1)) {a : Option T} {i : Decidable (¬ (x < 0 ∨ n ≤ x.toNatClampNeg))} (h : (@ite _ (¬ (x < 0 ∨ n ≤ x.toNatClampNeg)) i a none) = some o)
    (kk : a = some o → W p l e R s m args below meth c H locs cells slots Q (F0 m (pc + 1) ls (.int (S.1 k x.toNatClampNeg) :: rest))) : W p l e R s m args below meth c H locs cells slots Q (F0 m pc ls (.int x :: .ref (q k) :: rest)) :=
  va_iald hx hb hK hP k 0 (zWd_get hf) rfl (zif_g h).1 hd (kk (zif_g h).2)
theorem z_iast (hx : p.tables.exec = Jvm.exec) (hb : c.code = cc) (hq : zI cW q) (hK : va_K (dC, dI) vwCl (zty cI) s) (hP : va_P (dC, dI) vwCl (zWd cI cW q S) H) (hS : va_S (zA cW q) H0 H locs) {k n : Nat} (hf : cW[k]? = some (sArr cI n)) {x v : Int32} (hd : decode cc pc = .ok (.iastore, 1)) {g : zT → Option T} {i : Decidable (¬ (x < 0 ∨ n ≤ x.toNatClampNeg))} (h : (@ite _ (¬ (x < 0 ∨ n ≤ x.toNatClampNeg)) i (zlet (zsi S k x.toNatClampNeg v) g) none) = some o)
    (kk : ∀ (S1 : zT) (H1 : Heap) (locs1 : List Loc), va_P (dC, dI) vwCl (zWd cI cW q S1) H1 → va_S (zA cW q) H0 H1 locs1 → g S1 = some o → W p l e R s m args below meth c H1 locs1 cells slots Q (F0 m (pc + 1) ls rest)) : W p l e R s m args below meth c H locs cells slots Q (F0 m pc ls (.int v :: .int x :: .ref (q k) :: rest)) := by
  refine va_iast hx hb hK hP (zWd_D hq S) hS k 0 (zWd_get hf) rfl (zif_g h).1 hd (fun H1 locs1 hP1 _ hS1 => ?_)
  rw [zWd_set (S := S) (S' := zsi S k x.toNatClampNeg v) hf (by rw [zsi_k]) (fun k' hk => zsi_n _ v hk) (fun k' _ => rfl)] at hP1
  exact kk _ H1 locs1 hP1 hS1 (zif_g h).2
theorem z_alen (hx : p.tables.exec = Jvm.exec) (hb : c.code = cc) (hK : va_K (dC, dI) vwCl (zty cI) s) (hP : va_P (dC, dI) vwCl (zWd cI cW q S) H) {k n : Nat} (hf : cW[k]? = some (sArr cI n)) (hd : decode cc pc = .ok (.arraylength, 1))
    (kk : W p l e R s m args below meth c H locs cells slots Q (F0 m (pc + 1) ls (.int (nI n) :: rest))) : W p l e R s m args below meth c H locs cells slots Q (F0 m pc ls (.ref (q k) :: rest)) :=
  va_alen hx hb hK hP k 0 (zWd_get hf) (ty := .int) rfl rfl hd kk
/-- the ends of a method -/
theorem z_iret {v : Int32} (hx : p.tables.exec = Jvm.exec) (hb : c.code = cc) (hlocks : meth.locks = false) (hP : va_P (dC, dI) vwCl (zWd cI cW q S) H) (hS : va_S (zA cW q) s.heap H locs) {o : Int32 × zT} (hQ : Q = zGi dC dI cI cW q below args s o) (hr : meth.sig.returnType = some .int) (hd : decode cc pc = .ok (.ireturn, 1)) (h : (some (v, S) : Option (Int32 × zT)) = some o) : W p l e R s m args below meth c H locs 0 0 Q (F0 m pc ls [.int v]) := by
  subst hQ
  cases h
  exact W.iret hx hb hr (fun t ht _ => ⟨⟨_, _, rfl, ⟨rfl, rfl⟩, by show va_P _ _ _ _; rw [ht]; exact hP⟩, hS.F ht⟩) hS.2.2 hd
theorem z_bool {v : Int32} (h : v = 0 ∨ v = 1) : narrow .boolean (.int v) = .int v := by
  rcases h with rfl | rfl <;> rfl
theorem z_zretC {v : Int32} (hx : p.tables.exec = Jvm.exec) (hb : c.code = cc) (hlocks : meth.locks = false) (hP : va_P (dC, dI) vwCl (zWd cI cW q S) H) (hS : va_S (zA cW q) s.heap H locs) {o : Int32 × zT} (hQ : Q = zGi dC dI cI cW q below args s o) (hr : meth.sig.returnType = some .boolean) (hd : decode cc pc = .ok (.ireturn, 1)) (hv : v = 0 ∨ v = 1) (h : (some (v, S) : Option (Int32 × zT)) = some o) : W p l e R s m args below meth c H locs 0 0 Q (F0 m pc ls [.int v]) := by
  subst hQ
  cases h
  exact W.zret hx hb hr (z_bool hv) (fun t ht _ => ⟨⟨_, _, rfl, ⟨rfl, rfl⟩, by show va_P _ _ _ _; rw [ht]; exact hP⟩, hS.F ht⟩) hS.2.2 hd
theorem z_zret {v : Int32} (hx : p.tables.exec = Jvm.exec) (hb : c.code = cc) (hlocks : meth.locks = false) (hP : va_P (dC, dI) vwCl (zWd cI cW q S) H) (hS : va_S (zA cW q) s.heap H locs) {o : Int32 × zT} (hQ : Q = zGi dC dI cI cW q below args s o) (hr : meth.sig.returnType = some .boolean) (hd : decode cc pc = .ok (.ireturn, 1)) {i : Decidable (v = 0 ∨ v = 1)} (h : (@ite _ (v = 0 ∨ v = 1) i (some (v, S) : Option (Int32 × zT)) none) = some o) : W p l e R s m args below meth c H locs 0 0 Q (F0 m pc ls [.int v]) := by
  subst hQ
  exact z_zretC hx hb hlocks hP hS rfl hr hd (zif_g h).1 (zif_g h).2
theorem z_lret {v : Int64} (hx : p.tables.exec = Jvm.exec) (hb : c.code = cc) (hlocks : meth.locks = false) (hP : va_P (dC, dI) vwCl (zWd cI cW q S) H) (hS : va_S (zA cW q) s.heap H locs) {o : Int64 × zT} (hQ : Q = zGl dC dI cI cW q below args s o) (hr : meth.sig.returnType = some .long) (hd : decode cc pc = .ok (.lreturn, 1)) (h : (some (v, S) : Option (Int64 × zT)) = some o) : W p l e R s m args below meth c H locs 0 0 Q (F0 m pc ls [.long v]) := by
  subst hQ
  cases h
  exact W.lret hx hb hr (fun t ht _ => ⟨⟨_, _, rfl, ⟨rfl, rfl⟩, by show va_P _ _ _ _; rw [ht]; exact hP⟩, hS.F ht⟩) hS.2.2 hd
theorem z_vret (hx : p.tables.exec = Jvm.exec) (hb : c.code = cc) (hlocks : meth.locks = false) (hP : va_P (dC, dI) vwCl (zWd cI cW q S) H) (hS : va_S (zA cW q) s.heap H locs) {o : zT} (hQ : Q = zGv dC dI cI cW q below args s o) (hr : meth.sig.returnType = none) (hd : decode cc pc = .ok (.return_, 1)) (h : (some S : Option zT) = some o) : W p l e R s m args below meth c H locs 0 0 Q (F0 m pc ls []) := by
  subst hQ
  cases h
  exact W.vret hx hb hr (fun t ht _ => ⟨⟨_, rfl, rfl, by show va_P _ _ _ _; rw [ht]; exact hP⟩, hS.F ht⟩) hS.2.2 hd
theorem z_sret {k0 : Nat} {C : String} (hx : p.tables.exec = Jvm.exec) (hb : c.code = cc) (hlocks : meth.locks = false) (hP : va_P (dC, dI) vwCl (zWd cI cW q S) H) (hS : va_S (zA cW q) s.heap H locs) {o : zT} (hQ : Q = zGs dC dI cI cW q below args s k0 o) (hr : meth.sig.returnType = some (.object C)) (hd : decode cc pc = .ok (.areturn, 1)) (h : (some S : Option zT) = some o) : W p l e R s m args below meth c H locs 0 0 Q (F0 m pc ls [.ref (q k0)]) := by
  subst hQ
  cases h
  exact W.aret hx hb hr (Or.inl ⟨_, rfl⟩) (Or.inr ⟨_, rfl⟩) (fun t ht _ => ⟨⟨some (q k0), _, rfl, ⟨rfl, rfl⟩, by show va_P _ _ _ _; rw [ht]; exact hP⟩, hS.F ht⟩) hS.2.2 hd
theorem z_wretN {C : String} (hx : p.tables.exec = Jvm.exec) (hb : c.code = cc) (hlocks : meth.locks = false) (hP : va_P (dC, dI) vwCl (zWd cI cW q S) H) (hS : va_S (zA cW q) s.heap H locs) {o : Option Nat × zT} (hQ : Q = zGw dC dI cI cW q below args s o) (hr : meth.sig.returnType = some (.object C)) (hd : decode cc pc = .ok (.areturn, 1)) (h : (some (none, S) : Option (Option Nat × zT)) = some o) : W p l e R s m args below meth c H locs 0 0 Q (F0 m pc ls [.null]) := by
  subst hQ
  cases h
  exact W.aret hx hb hr (Or.inl ⟨_, rfl⟩) (Or.inl rfl) (fun t ht _ => ⟨⟨none, _, rfl, ⟨rfl, rfl⟩, by show va_P _ _ _ _; rw [ht]; exact hP⟩, hS.F ht⟩) hS.2.2 hd
theorem z_wret {k0 : Nat} {C : String} (hx : p.tables.exec = Jvm.exec) (hb : c.code = cc) (hlocks : meth.locks = false) (hP : va_P (dC, dI) vwCl (zWd cI cW q S) H) (hS : va_S (zA cW q) s.heap H locs) {o : Option Nat × zT} (hQ : Q = zGw dC dI cI cW q below args s o) (hr : meth.sig.returnType = some (.object C)) (hd : decode cc pc = .ok (.areturn, 1)) (h : (some (some k0, S) : Option (Option Nat × zT)) = some o) : W p l e R s m args below meth c H locs 0 0 Q (F0 m pc ls [.ref (q k0)]) := by
  subst hQ
  cases h
  exact W.aret hx hb hr (Or.inl ⟨_, rfl⟩) (Or.inr ⟨_, rfl⟩) (fun t ht _ => ⟨⟨some (q k0), _, rfl, ⟨rfl, rfl⟩, by show va_P _ _ _ _; rw [ht]; exact hP⟩, hS.F ht⟩) hS.2.2 hd
theorem z_ialdC (hx : p.tables.exec = Jvm.exec) (hb : c.code = cc) (hK : va_K (dC, dI) vwCl (zty cI) s) (hP : va_P (dC, dI) vwCl (zWd cI cW q S) H) {k n j : Nat} (hf : cW[k]? = some (sArr cI n)) {x : Int32} (hd : decode cc pc = .ok (.iaload, 1)) (hj : x.toNatClampNeg = j) (hin : ¬ (x < 0 ∨ n ≤ x.toNatClampNeg))
    (kk : W p l e R s m args below meth c H locs cells slots Q (F0 m (pc + 1) ls (.int (S.1 k j) :: rest))) : W p l e R s m args below meth c H locs cells slots Q (F0 m pc ls (.int x :: .ref (q k) :: rest)) := by
  subst hj
  exact va_iald hx hb hK hP k 0 (zWd_get hf) rfl hin hd kk
theorem z_iastC (hx : p.tables.exec = Jvm.exec) (hb : c.code = cc) (hq : zI cW q) (hK : va_K (dC, dI) vwCl (zty cI) s) (hP : va_P (dC, dI) vwCl (zWd cI cW q S) H) (hS : va_S (zA cW q) H0 H locs) {k n j : Nat} (hf : cW[k]? = some (sArr cI n)) {x v : Int32} (hd : decode cc pc = .ok (.iastore, 1)) (hj : x.toNatClampNeg = j) (hin : ¬ (x < 0 ∨ n ≤ x.toNatClampNeg)) {g : zT → Option T} (h : zlet (zsi S k j v) g = some o)
    (kk : ∀ (S1 : zT) (H1 : Heap) (locs1 : List Loc), va_P (dC, dI) vwCl (zWd cI cW q S1) H1 → va_S (zA cW q) H0 H1 locs1 → g S1 = some o → W p l e R s m args below meth c H1 locs1 cells slots Q (F0 m (pc + 1) ls rest)) : W p l e R s m args below meth c H locs cells slots Q (F0 m pc ls (.int v :: .int x :: .ref (q k) :: rest)) := by
  subst hj
  refine va_iast hx hb hK hP (zWd_D hq S) hS k 0 (zWd_get hf) rfl hin hd (fun H1 locs1 hP1 _ hS1 => ?_)
  rw [zWd_set (S := S) (S' := zsi S k x.toNatClampNeg v) hf (by rw [zsi_k]) (fun k' hk => zsi_n _ v hk) (fun k' _ => rfl)] at hP1
  exact kk _ H1 locs1 hP1 hS1 h
theorem z_wald (hW : zIs cI cW) (hx : p.tables.exec = Jvm.exec) (hb : c.code = cc) (hK : va_K (dC, dI) vwCl (zty cI) s) (hP : va_P (dC, dI) vwCl (zWd cI cW q S) H) {x : Int32} (hd : decode cc pc = .ok (.aaload, 1)) {a : Option T} {i : Decidable (¬ (x < 0 ∨ 8 ≤ x.toNatClampNeg))} (h : (@ite _ (¬ (x < 0 ∨ 8 ≤ x.toNatClampNeg)) i a none) = some o)
    (kk : a = some o → W p l e R s m args below meth c H locs cells slots Q (F0 m (pc + 1) ls (.ref (q (10 + 7 * x.toNatClampNeg)) :: rest))) : W p l e R s m args below meth c H locs cells slots Q (F0 m pc ls (.int x :: .ref (q 9) :: rest)) :=
  va_aldq hx hb hK hP 9 1 (zWd_get (p_9 hW)) rfl (zif_g h).1 hd (kk (zif_g h).2)
theorem z_wlen (hW : zIs cI cW) (hx : p.tables.exec = Jvm.exec) (hb : c.code = cc) (hK : va_K (dC, dI) vwCl (zty cI) s) (hP : va_P (dC, dI) vwCl (zWd cI cW q S) H) (hd : decode cc pc = .ok (.arraylength, 1))
    (kk : W p l e R s m args below meth c H locs cells slots Q (F0 m (pc + 1) ls (.int (nI 8) :: rest))) : W p l e R s m args below meth c H locs cells slots Q (F0 m pc ls (.ref (q 9) :: rest)) :=
  va_alen hx hb hK hP 9 1 (zWd_get (p_9 hW)) (ty := .object RX6) rfl rfl hd kk
theorem z_tblIn (hx : p.tables.exec = Jvm.exec) (hb : c.code = cc) {dflt lo hi : Int} {offs : Array Int} {len : Nat} {x v : Int32} {off : Int} {tgt : Nat} (hd : decode cc pc = .ok (.tableswitch dflt lo hi offs, len)) (hv : x = v) (h1 : ¬ v.toInt < lo) (h2 : ¬ hi < v.toInt) (ho : offs[(v.toInt - lo).toNat]? = some off) (ht : (pc : Int) + off = (tgt : Int))
    (k : W p l e R s m args below meth c H locs cells slots Q (F0 m tgt ls rest)) : W p l e R s m args below meth c H locs cells slots Q (F0 m pc ls (.int x :: rest)) := by
  subst hv
  exact lv_tableIn hx hb hd h1 h2 ho ht k
end ZW
theorem z_ne {x v : Int32} (h : ¬ x = v) : x.toInt ≠ v.toInt := fun e => h (Int32.toInt_inj.mp e)
theorem z_out8 {x : Int32} (h0 : ¬ x = 0) (h1 : ¬ x = 1) (h2 : ¬ x = 2) (h3 : ¬ x = 3) (h4 : ¬ x = 4) (h5 : ¬ x = 5) (h6 : ¬ x = 6) (h7 : ¬ x = 7) : x.toInt < 0 ∨ 7 < x.toInt := by
  have e0 : x.toInt ≠ 0 := z_ne h0
  have e1 : x.toInt ≠ 1 := z_ne h1
  have e2 : x.toInt ≠ 2 := z_ne h2
  have e3 : x.toInt ≠ 3 := z_ne h3
  have e4 : x.toInt ≠ 4 := z_ne h4
  have e5 : x.toInt ≠ 5 := z_ne h5
  have e6 : x.toInt ≠ 6 := z_ne h6
  have e7 : x.toInt ≠ 7 := z_ne h7
  omega
