/-! making the objects: trees of cells, each with its own addresses x (x 0 the object itself) -/
def zZ : zT := (fun _ _ => 0, fun _ _ => 0)
def zM (U : State) : Prop := zN U ∧ va_Nw (.methodLinkNest RX7 11 yX6_init RX7) U ∧ va_Nw (.methodLinkNest RX0 17 yX6_init RX7) U ∧ va_Nw (.methodLinkNest RX7 25 yX3_init RX7) U ∧ va_Nw (.methodLinkNest RX3 11 yX5_init RX7) U ∧ va_Nw (.methodLinkNest RX5 11 yX6_init RX7) U ∧ va_Nw (.methodLinkNest RX5 35 yX4_init RX7) U ∧ va_Nw (.methodLinkNest RX4 31 yX1_init RX7) U ∧ va_Nw (.methodLinkNest RX5 42 yX1_init RX7) U ∧ va_Nw (.methodLinkNest RX7 45 yX1_init RX7) U ∧ va_AO RX6 U
theorem zM_same {U V : State} (h : U.vm = V.vm) (hM : zM U) : zM V := by
  obtain ⟨⟨h0, h0'⟩, h1, h2, h3, h4, h5, h6, h7, h8, h9, h10⟩ := hM
  exact ⟨⟨va_Nw.same rfl h h0, va_Nw.same rfl h h0'⟩, va_Nw.same rfl h h1, va_Nw.same rfl h h2, va_Nw.same rfl h h3, va_Nw.same rfl h h4, va_Nw.same rfl h h5, va_Nw.same rfl h h6, va_Nw.same rfl h h7, va_Nw.same rfl h h8, va_Nw.same rfl h h9, va_AO.moved (by rw [h]; exact Vm.Alike.refl _) h10⟩
theorem zM_warm {s U : State} (hW : s.WarmedH U.vm) (hM : zM s) : zM U := by
  obtain ⟨⟨h0, h0'⟩, h1, h2, h3, h4, h5, h6, h7, h8, h9, h10⟩ := hM
  exact ⟨⟨h0.warmM hW, h0'.warmM hW⟩, h1.warmM hW, h2.warmM hW, h3.warmM hW, h4.warmM hW, h5.warmM hW, h6.warmM hW, h7.warmM hW, h8.warmM hW, h9.warmM hW, va_AO.moved hW.alike h10⟩
theorem zP_r {D : va_G} {cl : List vw_C} {w1 w2 : va_W} {H : Heap} (h : va_P D cl (w1 ++ w2) H) : va_P D cl w2 H := fun k q hk => h (w1.length + k) q (by rw [List.getElem?_append_right (by omega), Nat.add_sub_cancel_left]; exact hk)
theorem zP_l {D : va_G} {cl : List vw_C} {w1 w2 : va_W} {H : Heap} (h : va_P D cl (w1 ++ w2) H) : va_P D cl w1 H := fun k q hk => h k q (by rw [List.getElem?_append_left (List.getElem?_eq_some_iff.mp hk).1]; exact hk)
theorem zD_r {A : Nat → Prop} {w1 w2 : va_W} (h : va_D A (w1 ++ w2)) : va_D A w2 := by
  have e : ∀ k : Nat, (w1 ++ w2)[w1.length + k]? = w2[k]? := fun k => by rw [List.getElem?_append_right (by omega), Nat.add_sub_cancel_left]
  exact ⟨fun i j p q hi hj hpq => by have := h.1 _ _ p q ((e i).trans hi) ((e j).trans hj) hpq; omega, fun k q hk => h.2 _ q ((e k).trans hk)⟩
theorem zD_l {A : Nat → Prop} {w1 w2 : va_W} (h : va_D A (w1 ++ w2)) : va_D A w1 := by
  have e : ∀ (k : Nat) (q : Nat × va_E), w1[k]? = some q → (w1 ++ w2)[k]? = some q := fun k q hk => by rw [List.getElem?_append_left (List.getElem?_eq_some_iff.mp hk).1]; exact hk
  exact ⟨fun i j p q hi hj hpq => h.1 _ _ p q (e i p hi) (e j q hj) hpq, fun k q hk => h.2 _ q (e k q hk)⟩
theorem zD_x {A : Nat → Prop} {w1 w2 : va_W} (h : va_D A (w1 ++ w2)) {i j : Nat} {p q : Nat × va_E} (hi : w1[i]? = some p) (hj : w2[j]? = some q) : p.1 ≠ q.1 := by
  intro e
  have hl := (List.getElem?_eq_some_iff.mp hi).1
  have := h.1 i (w1.length + j) p q (by rw [List.getElem?_append_left hl]; exact hi) (by rw [List.getElem?_append_right (by omega), Nat.add_sub_cancel_left]; exact hj) e
  omega
/-- behind a call on the last cells of a world -/
theorem z_join {A0 : Nat → Prop} {D : va_G} {cl : List vw_C} {W0 wc w1 : va_W} {H H1 : Heap} (hP : va_P D cl (W0 ++ wc) H) (hD : va_D A0 (W0 ++ wc)) (hk : ∀ q : Nat, q < H.size → ¬ va_A wc H.size q → H1[q]? = H[q]?) (hF : ∀ q, va_A wc H.size q → A0 q) (hP1 : va_P D cl w1 H1) (hD1 : va_D (va_A wc H.size) w1) : va_P D cl (W0 ++ w1) H1 ∧ va_D A0 (W0 ++ w1) := by
  have apart : ∀ (k : Nat) (q : Nat × va_E), W0[k]? = some q → q.1 < H.size ∧ ¬ va_A wc H.size q.1 := by
    intro k q hq
    have hl := ((zP_l hP) k q hq).lt
    refine ⟨hl, fun h => ?_⟩
    rcases h with ⟨k2, e, h⟩ | h
    · exact zD_x hD hq h rfl
    · omega
  refine ⟨va_P.app (fun k q hq => ?_) hP1, va_D.app (zD_l hD) (hD1.weaken (fun k q _ h => hF q.1 h)) (fun i j x y hx hy hxy => ?_)⟩
  · obtain ⟨g1, g2⟩ := apart k q hq
    exact ((zP_l hP) k q hq).kept (hk q.1 g1 g2)
  · exact (apart i x hx).2 (by rw [hxy]; exact hD1.2 j y hy)
def zO (dC : Nat → ClassId) (dI : Nat → Nat → Nat) (cI : ClassId × ClassId) (a ci : Nat) (fs : List Value) (sz : Nat) (U : State) : Prop := U.heap.size = sz ∧ va_P (dC, dI) vwCl [(a, .inr (ci, fs))] U.heap ∧ va_K (dC, dI) vwCl (zty cI) U ∧ zM U ∧ va_D (fun _ => True) [(a, .inr (ci, fs))]
abbrev zQk (dC : Nat → ClassId) (dI : Nat → Nat → Nat) (cI : ClassId × ClassId) (a ci : Nat) (fs : List Value) (sz : Nat) (sh : List zSh) (S1 : zT) : Array Value → State → Outcome → State → Prop := va_Qv (fun x : Nat → Nat => x 0 = a) (fun x t => va_P (dC, dI) vwCl (zWd cI sh x S1) t.heap ∧ va_D (va_A [(a, .inr (ci, fs))] sz) (zWd cI sh x S1)) (va_A [(a, .inr (ci, fs))] sz)
def zCk (l : Launch) (dC : Nat → ClassId) (dI : Nat → Nat → Nat) (cI : ClassId × ClassId) (y : MethodName) (ws : List Cond) (rm : Room) (av : List Value) (a ci : Nat) (fs : List Value) (sz : Nat) (sh : List zSh) (S1 : zT) (mc ms : Nat) : Prop :=
  Met l y ws rm (va_Pc av (zO dC dI cI a ci fs sz)) (zQk dC dI cI a ci fs sz sh S1) mc ms (va_A [(a, .inr (ci, fs))] sz)
def zGk (dC : Nat → ClassId) (dI : Nat → Nat → Nat) (cI : ClassId × ClassId) (below : List Frame) (args : Array Value) (s : State) (a ci : Nat) (fs : List Value) (sh : List zSh) (S1 : zT) (mc ms : Nat) : State → Prop := MQ below (zQk dC dI cI a ci fs s.heap.size sh S1) args s mc ms (va_A [(a, .inr (ci, fs))] s.heap.size)
def zx (a : Nat) (x : Nat → Nat) : Nat → Nat := fun k => if k = 0 then a else x k
theorem zx_eq {a : Nat} {x : Nat → Nat} (h : x 0 = a) : zx a x = x := by
  funext k
  unfold zx
  split
  · subst k; exact h.symm
  · rfl
section ZK
variable {p : Program} {l : Launch} {e : Env} {R : Room} {s : State} {m : MethodId} {args : Array Value} {below : List Frame} {meth : Method} {c : Code} {H : Heap} {locs : List Loc} {cells slots : Nat} {Q : State → Prop}
variable {pc nL : Nat} {ls : Array Slot} {rest st : List Value} {cc : ByteArray} {H0 : Heap} {A : Nat → Prop}
variable {dC : Nat → ClassId} {dI : Nat → Nat → Nat} {cI : ClassId × ClassId}
theorem zO_blind (av : List Value) (a ci : Nat) (fs : List Value) (sz : Nat) : FrameBlind (va_Pc av (zO dC dI cI a ci fs sz)) := by
  intro b U g mk h
  obtain ⟨h0, h1, h2, h3, h4, h5⟩ := h
  exact ⟨h0, h1, h2, va_K.moved (u := U) (U := U.calling g mk b) (Vm.Alike.refl U.vm) h3, zM_same rfl h4, h5⟩
theorem zMetK {y : MethodName} {bytes : ByteArray} {maxL : Nat} {rm : Room} {av : List Value} {lv : List (Nat × Value)} {a ci : Nat} {fs : List Value} {sz : Nat} {sh : List zSh} {S1 : zT} {mc ms : Nat} (hy : plainName y.cls = true) (hyi : y.name = "<init>") (hlen : (lg_sl av).length ≤ maxL) (hlv : lv_args 0 av = lv)
    (body : ∀ (p : Program) (e : Env) (s : State) (m : MethodId) (args : Array Value) (below : List Frame) (meth : Method) (c : Code) (Q : State → Prop) (A : Nat → Prop), p.tables.exec = Jvm.exec → c.code = bytes → c.maxLocals = maxL → meth.sig.returnType = none → (∀ w ∈ zU, w.before args s = true) → s.vm.findClass y.cls = some m.cls → meth.locks = false → meth.name = "<init>" → va_K (dC, dI) vwCl (zty cI) s → zM s → va_P (dC, dI) vwCl [(a, .inr (ci, fs))] s.heap → va_D A [(a, .inr (ci, fs))] → va_S A s.heap s.heap [] → (∀ q : Nat, s.heap.size ≤ q → A q) → A = va_A [(a, .inr (ci, fs))] s.heap.size → ∀ (ls : Array Slot), lv_has ls maxL lv → Q = zGk dC dI cI below args s a ci fs sh S1 mc ms →
      W p l e rm s m args below meth c s.heap [] 0 0 Q (F0 m 0 ls [])) : zCk l dC dI cI y (Cond.code y bytes maxL none :: zU) rm av a ci fs sz sh S1 mc ms := by
  refine Met.ofW (cc := bytes) (maxL := maxL) (ret := none) hy rfl ?_
  intro p e s m args below meth c s₁ B hml hv
  obtain ⟨rfl, rfl, hP, hK, hM, hD0⟩ := hv
  have hts := atoms_spec (ws := Cond.code y bytes maxL none :: zU) B.pre
  have hl := lv_entry av (n := maxL) hlen
  rw [lg_entry_eq]
  generalize (lg_sl av ++ List.replicate (maxL - (lg_sl av).length) Slot.unset).toArray = ls at hl ⊢
  rw [hlv] at hl
  exact body p e s m _ below meth c _ _ B.exec B.bytes hml B.returns (fun w hw => hts w (List.mem_cons_of_mem _ hw)) (findClass_of_methodNamed B.named) B.notSynchronized ((name_of_methodNamed B.named B.method).1.trans hyi) hK hM hP (hD0.self (sz := s.heap.size)) va_S.rf (fun q h => Or.inr h) rfl ls hl rfl
theorem z_kret {ws : va_W} {a ci : Nat} {fs : List Value} {sh : List zSh} {S1 : zT} {mc ms : Nat} (hx : p.tables.exec = Jvm.exec) (hb : c.code = cc) (hlocks : meth.locks = false) (hP : va_P (dC, dI) vwCl ws H) (hD : va_D A ws) (hS : va_S A s.heap H locs) (hQ : Q = zGk dC dI cI below args s a ci fs sh S1 mc ms) (hAe : A = va_A [(a, .inr (ci, fs))] s.heap.size) (hr : meth.sig.returnType = none) (hd : decode cc pc = .ok (.return_, 1)) (x : Nat → Nat) (hx0 : x 0 = a) (heq : ws = zWd cI sh x S1) : W p l e R s m args below meth c H locs mc ms Q (F0 m pc ls []) := by
  subst hQ; subst heq; subst hAe
  exact W.vret hx hb hr (fun t ht _ => ⟨⟨x, rfl, hx0, by rw [ht]; exact hP, hD⟩, hS.F ht⟩) hS.2.2 hd
theorem z_kobj (hx : p.tables.exec = Jvm.exec) (hb : c.code = cc) {own : String} (hown : s.vm.findClass own = some m.cls) (hml : c.maxLocals = nL) (hsize : ls.size = nL) (hU : ∀ w ∈ zU, w.before args s = true) {idx : Nat} (hl : Cond.methodLink own idx ⟨"java/lang/Object", "<init>", "()V"⟩ ∈ zU) {a : Nat} (hd : decode cc pc = .ok (.invokespecial idx, 3)) (hframes : 1 ≤ R.frames) (hlocals : (rest.map fun v => v.category).sum + 12 ≤ R.locals)
    (kk : W p l e R s m args below meth c H locs cells slots Q (F0 m (pc + 3) ls rest)) : W p l e R s m args below meth c H locs cells slots Q (F0 m pc ls (.ref a :: rest)) :=
  W.objInit hx hb hown (hU _ hl) (hU _ uI_O_init) (hU _ uC_O_init) rfl (hsize.trans hml.symm) rfl hd hframes (by show 2 * 0 + _ + 12 ≤ _; omega) kk
theorem z_karr (hx : p.tables.exec = Jvm.exec) (hb : c.code = cc) (hU : ∀ w ∈ zU, w.before args s = true) {ws : va_W} (hK : va_K (dC, dI) vwCl (zty cI) s) (hP : va_P (dC, dI) vwCl ws H) (hD : va_D A ws) (hS : va_S A H0 H locs) (hA : ∀ q, H0.size ≤ q → A q) {v : Int32} {n : Nat} (hn : ¬ v < 0) (hN : v.toNatClampNeg = n) (hbytes : n * 4 ≤ 536870912) (hcells : cells + 1 ≤ R.cells) (hslots : slots + n ≤ R.slots) (hd : decode cc pc = .ok (.newarray .int, 2))
    (kk : ∀ (a1 : Nat) (H1 : Heap), va_P (dC, dI) vwCl (ws ++ [(a1, .inl (cI.1, n, .inl (fun _ => 0)))]) H1 → va_D A (ws ++ [(a1, .inl (cI.1, n, .inl (fun _ => 0)))]) → va_S A H0 H1 locs → W p l e R s m args below meth c H1 locs (cells + 1) (slots + n) Q (F0 m (pc + 2) ls (.ref a1 :: rest))) : W p l e R s m args below meth c H locs cells slots Q (F0 m pc ls (.int v :: rest)) := by
  refine va_newa (atype := .int) hx hb (hU _ uA_int) (ty := .int) rfl hK hP hD hS hA (a0 := (n, .inl (fun _ => 0))) (fun cA => rfl) hn hN hbytes hcells hslots hd (fun a1 cA H1 hK1 hP1 hD1 hS1 => ?_)
  have e1 : s.vm.findClass ("[" ++ FieldType.int.toString) = some cA := (hK1.2 2 _ rfl).2
  have e2 : s.vm.findClass ("[" ++ FieldType.int.toString) = some cI.1 := (hK.2 0 _ rfl).2
  have e3 : cA = cI.1 := Option.some.inj (e1.symm.trans e2)
  subst e3
  exact kk a1 H1 hP1 hD1 hS1
theorem z_kcallI (hx : p.tables.exec = Jvm.exec) (hb : c.code = cc) (hml : c.maxLocals = nL) {own : String} (hown : s.vm.findClass own = some m.cls) (hU : ∀ w ∈ zU, w.before args s = true) (hK : va_K (dC, dI) vwCl (zty cI) s) (hM : zM s) {W0 : va_W} {a1 ci : Nat} {fs : List Value} {sh : List zSh} {S1 : zT} {mc ms : Nat} (hP : va_P (dC, dI) vwCl (W0 ++ [(a1, .inr (ci, fs))]) H) (hD : va_D A (W0 ++ [(a1, .inr (ci, fs))])) (hS : va_S A H0 H locs) (hA : ∀ q, H0.size ≤ q → A q) {y : MethodName} {bytes : ByteArray} {maxL index : Nat} {rm : Room} (n : Nat) (hl : Cond.methodLink own index y ∈ zU) (hi : Cond.initialized y.cls ∈ zU) (hin : Cond.instanceMethod y ∈ zU) (hcode : Cond.code y bytes maxL none ∈ zU) (hyi : y.name = "<init>") (hdesc : y.cls ≠ "java/lang/invoke/MethodHandle" ∧ y.cls ≠ "java/lang/invoke/VarHandle" ∧ (parseMethodDescriptor y.desc).map (fun d => d.parameters.length) = some n) (hrc : rm.cells = mc) (hrs : rm.slots = ms) (hR : rm.frames + 1 ≤ R.frames ∧ 8 + (maxL + 11) + rm.locals ≤ R.locals) {As : List Value} (hC : ∀ sz : Nat, zCk l dC dI cI y (Cond.code y bytes maxL none :: zU) rm (.ref a1 :: As) a1 ci fs sz sh S1 mc ms) (hn : As.length = n) (hsize : ls.size = nL) (hst : st = As.reverse ++ .ref a1 :: rest) (hroom : (rest.map fun v => v.category).sum ≤ 8) (hd : decode cc pc = .ok (.invokespecial index, 3)) (hf0 : cells + mc ≤ R.cells ∧ slots + ms ≤ R.slots)
    (kk : ∀ (x : Nat → Nat) (H1 : Heap) (locs1 : List Loc), va_P (dC, dI) vwCl (W0 ++ zWd cI sh (zx a1 x) S1) H1 → va_D A (W0 ++ zWd cI sh (zx a1 x) S1) → va_S A H0 H1 locs1 → W p l e R s m args below meth c H1 locs1 (cells + mc) (slots + ms) Q (F0 m (pc + 3) ls rest)) : W p l e R s m args below meth c H locs cells slots Q (F0 m pc ls st) := by
  have hFc : ∀ q, va_A [(a1, .inr (ci, fs))] H.size q → A q := by
    intro q h
    rcases h with ⟨k, e, h⟩ | h
    · exact (zD_r hD).2 k (q, e) h
    · exact hA q (Nat.le_trans hS.1 h)
  have hG : GoodIn zU (Cond.code y bytes maxL none :: zU) := zU_g (fun w hw => (List.mem_cons.mp hw).elim (fun e => e ▸ hcode) id)
  refine va_callv (va_runI (As := As) (rest := rest) ⟨hx, hb, hml, hown, hU⟩ (hC H.size) (cwI n hU hG rfl hrc hrs (hU _ hi) (hU _ hl) (hU _ hin) hyi hdesc hR) ⟨zO_blind _ _ _ _ _, fun U hU hW => ⟨rfl, by rw [hU], by rw [hU]; exact zP_r hP, va_K.moved hW.alike hK, zM_warm hW hM, (zD_r hD).weaken (fun _ _ _ _ => trivial)⟩⟩ rfl hn hsize hst (lv_room hroom) hd hf0) hS (fun q _ h => hFc q h) hFc (fun x t H1 locs1 ht hvm hw hB hz hk hS1 => ?_)
  obtain ⟨hP1, hD1⟩ := hB
  rw [ht] at hP1
  obtain ⟨hP, hD⟩ := z_join hP hD hk hFc hP1 hD1
  rw [← zx_eq hw] at hP hD
  exact kk x H1 locs1 hP hD hS1
theorem z_kcallN (hx : p.tables.exec = Jvm.exec) (hb : c.code = cc) (hml : c.maxLocals = nL) {own : String} (hown : s.vm.findClass own = some m.cls) (hU : ∀ w ∈ zU, w.before args s = true) (hK : va_K (dC, dI) vwCl (zty cI) s) (hM : zM s) {W0 : va_W} {a1 ci : Nat} {fs : List Value} {sh : List zSh} {S1 : zT} {mc ms : Nat} (hP : va_P (dC, dI) vwCl (W0 ++ [(a1, .inr (ci, fs))]) H) (hD : va_D A (W0 ++ [(a1, .inr (ci, fs))])) (hS : va_S A H0 H locs) (hA : ∀ q, H0.size ≤ q → A q) {y : MethodName} {bytes : ByteArray} {maxL index : Nat} {rm : Room} (n : Nat) (hl : va_Nw (.methodLinkNest own index y RX7) s) (hi : Cond.initialized y.cls ∈ zU) (hin : Cond.instanceMethod y ∈ zU) (hcode : Cond.code y bytes maxL none ∈ zU) (hyi : y.name = "<init>") (hdesc : y.cls ≠ "java/lang/invoke/MethodHandle" ∧ y.cls ≠ "java/lang/invoke/VarHandle" ∧ (parseMethodDescriptor y.desc).map (fun d => d.parameters.length) = some n) (hrc : rm.cells = mc) (hrs : rm.slots = ms) (hR : rm.frames + 1 ≤ R.frames ∧ 8 + (maxL + 11) + rm.locals ≤ R.locals) {As : List Value} (hC : ∀ sz : Nat, zCk l dC dI cI y (Cond.code y bytes maxL none :: zU) rm (.ref a1 :: As) a1 ci fs sz sh S1 mc ms) (hn : As.length = n) (hsize : ls.size = nL) (hst : st = As.reverse ++ .ref a1 :: rest) (hroom : (rest.map fun v => v.category).sum ≤ 8) (hd : decode cc pc = .ok (.invokespecial index, 3)) (hf0 : cells + mc ≤ R.cells ∧ slots + ms ≤ R.slots)
    (kk : ∀ (x : Nat → Nat) (H1 : Heap) (locs1 : List Loc), va_P (dC, dI) vwCl (W0 ++ zWd cI sh (zx a1 x) S1) H1 → va_D A (W0 ++ zWd cI sh (zx a1 x) S1) → va_S A H0 H1 locs1 → W p l e R s m args below meth c H1 locs1 (cells + mc) (slots + ms) Q (F0 m (pc + 3) ls rest)) : W p l e R s m args below meth c H locs cells slots Q (F0 m pc ls st) := by
  have hFc : ∀ q, va_A [(a1, .inr (ci, fs))] H.size q → A q := by
    intro q h
    rcases h with ⟨k, e, h⟩ | h
    · exact (zD_r hD).2 k (q, e) h
    · exact hA q (Nat.le_trans hS.1 h)
  have hG : GoodIn zU (Cond.code y bytes maxL none :: zU) := zU_g (fun w hw => (List.mem_cons.mp hw).elim (fun e => e ▸ hcode) id)
  refine va_callv (va_runIN (As := As) (rest := rest) ⟨hx, hb, hml, hown, hU⟩ (hC H.size) ⟨va_cnB n hU hG rfl hrc hrs hl (hU _ hi) hdesc hR, hyi, hU _ hin⟩ ⟨zO_blind _ _ _ _ _, fun U hU hW => ⟨rfl, by rw [hU], by rw [hU]; exact zP_r hP, va_K.moved hW.alike hK, zM_warm hW hM, (zD_r hD).weaken (fun _ _ _ _ => trivial)⟩⟩ rfl hn hsize hst (lv_room hroom) hd hf0) hS (fun q _ h => hFc q h) hFc (fun x t H1 locs1 ht hvm hw hB hz hk hS1 => ?_)
  obtain ⟨hP1, hD1⟩ := hB
  rw [ht] at hP1
  obtain ⟨hP, hD⟩ := z_join hP hD hk hFc hP1 hD1
  rw [← zx_eq hw] at hP hD
  exact kk x H1 locs1 hP hD hS1
end ZK
