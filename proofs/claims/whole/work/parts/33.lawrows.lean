/-! THE CLAIM OUT OF ONE WALK OF THE LAW'S BODY. Your part is whole_start (and what it stands on); all else here is the same for every law, but numbers. -/
def R_law : String := "LegBenchLaw"
def lw_P (b : Addr) (xs : List Int32) (args : Array Value) (s : State) : Prop := args = #[.ref b] ∧ s.IntsAt b xs ∧ xs.length ≤ 3584 ∧ (Jvm.Cond.and given_1 narrow_1).before args s = true
def lw_Q (_ : Array Value) (s : State) (o : Outcome) (t : State) : Prop := o = .returned (some (.int 1)) ∧ Framed s o t [] 600000 7302250
def lw_Z (below : List Frame) (a : Array Value) (s : State) : State → Prop := fun t => ∃ o, t.status = .running ∧ Ended t below o ∧ lw_Q a s o t
/-- the law's own end, with 1 on the stack, nothing written that was there before, its room as the claim has it -/
theorem lw_ret {p : Program} {l : Launch} {e : Env} {s : State} {m : MethodId} {below : List Frame} {meth : Method} {c : Code} {b : Nat} (hx : p.tables.exec = Jvm.exec) (hb : c.code = code) (hr : meth.sig.returnType = ret) (hlocks : meth.locks = false) {pc : Nat} {H : Heap} {ls : Array Slot} (hdg : decode code pc = .ok (.ireturn, 1)) : W p l e room_1 s m #[Value.ref b] below meth c H [] 600000 7302250 (lw_Z below #[Value.ref b] s) (F0 m pc ls [.int 1]) := by
  intro T hT X
  obtain ⟨fs, hret, hrun, hended, hW, hframe⟩ := X.leave (v := some (.int 1)) (hlocks := hlocks) (fun h => by rw [hr] at h; cases h)
  have hmeth' : T.vm.method? m = some meth := X.method'
  refine ⟨T.setFrames fs, ?_, .returned (some (.int 1)), hrun, hended, rfl, ⟨_, rfl⟩, hW, hframe⟩
  jvm_step X.here [X.here.top, hx, hb, hdg, hmeth', hr, ret, narrow_b1]
  (try refine ⟨rfl, ?_⟩); (try refine ⟨rfl, ?_⟩)
  first | (intro acts; rw [hret _ acts rfl rfl rfl]) | rw [hret _ _ rfl rfl rfl]
  exact Steps.refl _
/-- what holds at the law's entry: the machine, the code, the tables' words (any of lw_tbl by 'hts w (by decide +kernel)'), the script of L ints xs at the cell b, what the Statement gives of the start (any of its parts by flat_of_before) -/
def lw_At (p : Program) (s : State) (m : MethodId) (meth : Method) (c : Code) (b L : Nat) (xs : Nat → Int32) : Prop :=
  p.tables.exec = Jvm.exec ∧ c.code = code ∧ meth.sig.returnType = ret ∧ c.maxLocals = 4 ∧ s.vm.findClass R_law = some m.cls ∧ (∀ w ∈ lw_tbl, w.before #[Value.ref b] s = true) ∧ va_X b L xs s s.heap ∧ b < s.heap.size ∧ meth.locks = false ∧ (Jvm.Cond.and given_1 narrow_1).before #[Value.ref b] s = true
/-! the law: both answers, side by side -/
def zOi (Inv : zT → Prop) (F G : zT → Option (Int32 × zT)) : Prop := ∀ S, Inv S → ∃ r S1 S2, F S = some (r, S1) ∧ G S1 = some (r, S2) ∧ Inv S2
def zOl (Inv : zT → Prop) (F G : zT → Option (Int64 × zT)) : Prop := ∀ S, Inv S → ∃ r S1 S2, F S = some (r, S1) ∧ G S1 = some (r, S2) ∧ Inv S2
def zK_walker (Inv : zT → Prop) : Prop := ∀ a1 a2 : Int32, zOi Inv (fX7_walker a1 a2) (fX8_walker a1 a2)
def zK_leg (Inv : zT → Prop) : Prop := ∀ a1 a2 a3 : Int32, zOi Inv (fX7_leg a1 a2 a3) (fX8_leg a1 a2 a3)
def zK_middle (Inv : zT → Prop) : Prop := ∀ a1 a2 : Int32, zOi Inv (fX7_middle a1 a2) (fX8_middle a1 a2)
def zK_pace (Inv : zT → Prop) : Prop := ∀ a1 a2 : Int32, zOi Inv (fX7_pace a1 a2) (fX8_pace a1 a2)
def zK_gait (Inv : zT → Prop) : Prop := ∀ a1 a2 a3 a4 a5 a6 : Int32, zOi Inv (fX7_gait a1 a2 a3 a4 a5 a6) (fX8_gait a1 a2 a3 a4 a5 a6)
def zK_tick (Inv : zT → Prop) : Prop := ∀ a1 a2 : Int32, zOi Inv (fX7_tick a1 a2) (fX8_tick a1 a2)
def zK_regular (Inv : zT → Prop) : Prop := ∀ a1 a2 a3 : Int32, zOi Inv (fX7_regular a1 a2 a3) (fX8_regular a1 a2 a3)
def zK_about (Inv : zT → Prop) : Prop := ∀ a1 : Int32, zOi Inv (fX7_about a1) (fX8_about a1)
def zK_down (Inv : zT → Prop) : Prop := ∀ a1 : Int32, zOi Inv (fX7_down a1) (fX8_down a1)
def zK_foot (Inv : zT → Prop) : Prop := ∀ a1 a2 a3 : Int32, zOi Inv (fX7_foot a1 a2 a3) (fX8_foot a1 a2 a3)
def zK_stands (Inv : zT → Prop) : Prop := ∀ a1 : Int32, zOi Inv (fX7_stands a1) (fX8_stands a1)
def zK_walks (Inv : zT → Prop) : Prop := zOi Inv (fX7_walks) (fX8_walks)
def zK_why (Inv : zT → Prop) : Prop := zOi Inv (fX7_why) (fX8_why)
def zK_margin (Inv : zT → Prop) : Prop := ∀ a1 a2 : Int32, zOl Inv (fX7_margin a1 a2) (fX8_margin a1 a2)
def zK_worst (Inv : zT → Prop) : Prop := ∀ a1 : Int32, zOl Inv (fX7_worst a1) (fX8_worst a1)
def zK_fastest (Inv : zT → Prop) : Prop := zOi Inv (fX7_fastest) (fX8_fastest)
def zK_many (Inv : zT → Prop) : Prop := ∀ a1 a2 : Int32, zOi Inv (fX7_many a1 a2) (fX8_many a1 a2)
def zK_pick (Inv : zT → Prop) : Prop := ∀ a1 a2 a3 : Int32, zOi Inv (fX7_pick a1 a2 a3) (fX8_pick a1 a2 a3)
def zK_rank (Inv : zT → Prop) : Prop := ∀ a1 a2 : Int32, zOi Inv (fX7_rank a1 a2) (fX8_rank a1 a2)
def zK_unlike (Inv : zT → Prop) : Prop := ∀ a1 a2 : Int32, zOi Inv (fX7_unlike a1 a2) (fX8_unlike a1 a2)
def zK_best (Inv : zT → Prop) : Prop := ∀ a1 a2 : Int32, zOi Inv (fX7_best a1 a2) (fX8_best a1 a2)
def zK_without (Inv : zT → Prop) : Prop := ∀ a1 a2 a3 : Int32, zOi Inv (fX7_without a1 a2 a3) (fX8_without a1 a2 a3)
def zK_loads (Inv : zT → Prop) : Prop := ∀ a1 : Int32, zOi Inv (fX7_loads a1) (fX8_loads a1)
def zK_way (Inv : zT → Prop) : Prop := ∀ a1 a2 a3 : Int32, zOi Inv (fX7_way a1 a2 a3) (fX8_way a1 a2 a3)
def zK_undo (Inv : zT → Prop) : Prop := zOi Inv (fX7_undo) (fX8_undo)
def zK_all (Inv : zT → Prop) : Prop := zK_walker Inv ∧ zK_leg Inv ∧ zK_middle Inv ∧ zK_pace Inv ∧ zK_gait Inv ∧ zK_tick Inv ∧ zK_regular Inv ∧ zK_about Inv ∧ zK_down Inv ∧ zK_foot Inv ∧ zK_stands Inv ∧ zK_walks Inv ∧ zK_why Inv ∧ zK_margin Inv ∧ zK_worst Inv ∧ zK_fastest Inv ∧ zK_many Inv ∧ zK_pick Inv ∧ zK_rank Inv ∧ zK_unlike Inv ∧ zK_best Inv ∧ zK_without Inv ∧ zK_loads Inv ∧ zK_way Inv ∧ zK_undo Inv
theorem z_cV_i {p : Program} {l : Launch} {e : Env} {R : Room} {s : State} {m : MethodId} {args : Array Value} {below : List Frame} {meth : Method} {c : Code} {H : Heap} {locs : List Loc} {cells slots : Nat} {Q : State → Prop} {pc nL : Nat} {ls : Array Slot} {rest st : List Value} {cc : ByteArray} {H0 : Heap} {dC : Nat → ClassId} {dI : Nat → Nat → Nat} {cI : ClassId × ClassId} {cW : List zSh} {q : Nat → Nat} {S : zT} (hx : p.tables.exec = Jvm.exec) (hb : c.code = cc) (hml : c.maxLocals = nL) {own : String} (hown : s.vm.findClass own = some m.cls) (hU : ∀ w ∈ zU, w.before args s = true) (hK : va_K (dC, dI) vwCl (zty cI) s) (hN : zN s) (hP : va_P (dC, dI) vwCl (zWd cI cW q S) H) (hS : va_S (zA cW q) H0 H locs) {y : MethodName} {bytes : ByteArray} {maxL index : Nat} {ret : Option FieldType} {rm : Room} (n : Nat) {C : String} {Tb : u_T} {N ci k : Nat} {f : zSh} {fs : List Value} (hf : cW[k]? = some f) (he : f q (S.1 k) (S.2 k) = .inr (ci, fs)) (hc : vwCl[ci]? = some (C, Tb, N)) (hg : ∀ w ∈ wsV own index C y (Cond.code y bytes maxL ret :: zU), w ∈ zU) (hdesc : y.cls = C ∧ y.cls ≠ "java/lang/invoke/MethodHandle" ∧ y.cls ≠ "java/lang/invoke/VarHandle" ∧ (parseMethodDescriptor y.desc).map (fun d => d.parameters.length) = some n) (hrc : rm.cells = 0 ∧ rm.slots = 0) (hR : rm.frames + 1 ≤ R.frames ∧ 8 + (maxL + 11) + rm.locals ≤ R.locals) {As : List Value} {F : Option (Int32 × zT)} {r : Int32} {S1 : zT} (hF : F = some (r, S1)) (hM : ∀ o : Int32 × zT, F = some o → zCi l dC dI cI cW q y (Cond.code y bytes maxL ret :: zU) rm (.ref (q k) :: As) S o) (hn : As.length = n) (hsize : ls.size = nL) (hst : st = As.reverse ++ .ref (q k) :: rest) (hroom : (rest.map fun v => v.category).sum ≤ 8) (hd : decode cc pc = .ok (.invokevirtual index, 3)) (hf0 : cells + 0 ≤ R.cells ∧ slots + 0 ≤ R.slots)
    (kk : ∀ (H1 : Heap) (locs1 : List Loc), va_P (dC, dI) vwCl (zWd cI cW q S1) H1 → va_S (zA cW q) H0 H1 locs1 → W p l e R s m args below meth c H1 locs1 cells slots Q (F0 m (pc + 3) ls (.int r :: rest))) : W p l e R s m args below meth c H locs cells slots Q (F0 m pc ls st) :=
  z_callV_i (o := (r, S1)) (g := fun r S => some (r, S)) hx hb hml hown hU hK hN hP hS n hf he hc hg hdesc hrc hR hM hn hsize hst hroom hd hf0 (by rw [hF]; rfl) (fun r' S' H1 locs1 hP hS h => by cases h; exact kk H1 locs1 hP hS)
theorem z_cV_l {p : Program} {l : Launch} {e : Env} {R : Room} {s : State} {m : MethodId} {args : Array Value} {below : List Frame} {meth : Method} {c : Code} {H : Heap} {locs : List Loc} {cells slots : Nat} {Q : State → Prop} {pc nL : Nat} {ls : Array Slot} {rest st : List Value} {cc : ByteArray} {H0 : Heap} {dC : Nat → ClassId} {dI : Nat → Nat → Nat} {cI : ClassId × ClassId} {cW : List zSh} {q : Nat → Nat} {S : zT} (hx : p.tables.exec = Jvm.exec) (hb : c.code = cc) (hml : c.maxLocals = nL) {own : String} (hown : s.vm.findClass own = some m.cls) (hU : ∀ w ∈ zU, w.before args s = true) (hK : va_K (dC, dI) vwCl (zty cI) s) (hN : zN s) (hP : va_P (dC, dI) vwCl (zWd cI cW q S) H) (hS : va_S (zA cW q) H0 H locs) {y : MethodName} {bytes : ByteArray} {maxL index : Nat} {ret : Option FieldType} {rm : Room} (n : Nat) {C : String} {Tb : u_T} {N ci k : Nat} {f : zSh} {fs : List Value} (hf : cW[k]? = some f) (he : f q (S.1 k) (S.2 k) = .inr (ci, fs)) (hc : vwCl[ci]? = some (C, Tb, N)) (hg : ∀ w ∈ wsV own index C y (Cond.code y bytes maxL ret :: zU), w ∈ zU) (hdesc : y.cls = C ∧ y.cls ≠ "java/lang/invoke/MethodHandle" ∧ y.cls ≠ "java/lang/invoke/VarHandle" ∧ (parseMethodDescriptor y.desc).map (fun d => d.parameters.length) = some n) (hrc : rm.cells = 0 ∧ rm.slots = 0) (hR : rm.frames + 1 ≤ R.frames ∧ 8 + (maxL + 11) + rm.locals ≤ R.locals) {As : List Value} {F : Option (Int64 × zT)} {r : Int64} {S1 : zT} (hF : F = some (r, S1)) (hM : ∀ o : Int64 × zT, F = some o → zCl l dC dI cI cW q y (Cond.code y bytes maxL ret :: zU) rm (.ref (q k) :: As) S o) (hn : As.length = n) (hsize : ls.size = nL) (hst : st = As.reverse ++ .ref (q k) :: rest) (hroom : (rest.map fun v => v.category).sum ≤ 8) (hd : decode cc pc = .ok (.invokevirtual index, 3)) (hf0 : cells + 0 ≤ R.cells ∧ slots + 0 ≤ R.slots)
    (kk : ∀ (H1 : Heap) (locs1 : List Loc), va_P (dC, dI) vwCl (zWd cI cW q S1) H1 → va_S (zA cW q) H0 H1 locs1 → W p l e R s m args below meth c H1 locs1 cells slots Q (F0 m (pc + 3) ls (.long r :: rest))) : W p l e R s m args below meth c H locs cells slots Q (F0 m pc ls st) :=
  z_callV_l (o := (r, S1)) (g := fun r S => some (r, S)) hx hb hml hown hU hK hN hP hS n hf he hc hg hdesc hrc hR hM hn hsize hst hroom hd hf0 (by rw [hF]; rfl) (fun r' S' H1 locs1 hP hS h => by cases h; exact kk H1 locs1 hP hS)
theorem lg_cmp_self (x : Int64) : lg_cmp x x = 0 := by simp [lg_cmp]
theorem z_out25 {x : Int32} (h0 : ¬ x = 0) (h1 : ¬ x = 1) (h2 : ¬ x = 2) (h3 : ¬ x = 3) (h4 : ¬ x = 4) (h5 : ¬ x = 5) (h6 : ¬ x = 6) (h7 : ¬ x = 7) (h8 : ¬ x = 8) (h9 : ¬ x = 9) (h10 : ¬ x = 10) (h11 : ¬ x = 11) (h12 : ¬ x = 12) (h13 : ¬ x = 13) (h14 : ¬ x = 14) (h15 : ¬ x = 15) (h16 : ¬ x = 16) (h17 : ¬ x = 17) (h18 : ¬ x = 18) (h19 : ¬ x = 19) (h20 : ¬ x = 20) (h21 : ¬ x = 21) (h22 : ¬ x = 22) (h23 : ¬ x = 23) (h24 : ¬ x = 24) : x.toInt < 0 ∨ 24 < x.toInt := by
  have e0 : x.toInt ≠ 0 := z_ne h0
  have e1 : x.toInt ≠ 1 := z_ne h1
  have e2 : x.toInt ≠ 2 := z_ne h2
  have e3 : x.toInt ≠ 3 := z_ne h3
  have e4 : x.toInt ≠ 4 := z_ne h4
  have e5 : x.toInt ≠ 5 := z_ne h5
  have e6 : x.toInt ≠ 6 := z_ne h6
  have e7 : x.toInt ≠ 7 := z_ne h7
  have e8 : x.toInt ≠ 8 := z_ne h8
  have e9 : x.toInt ≠ 9 := z_ne h9
  have e10 : x.toInt ≠ 10 := z_ne h10
  have e11 : x.toInt ≠ 11 := z_ne h11
  have e12 : x.toInt ≠ 12 := z_ne h12
  have e13 : x.toInt ≠ 13 := z_ne h13
  have e14 : x.toInt ≠ 14 := z_ne h14
  have e15 : x.toInt ≠ 15 := z_ne h15
  have e16 : x.toInt ≠ 16 := z_ne h16
  have e17 : x.toInt ≠ 17 := z_ne h17
  have e18 : x.toInt ≠ 18 := z_ne h18
  have e19 : x.toInt ≠ 19 := z_ne h19
  have e20 : x.toInt ≠ 20 := z_ne h20
  have e21 : x.toInt ≠ 21 := z_ne h21
  have e22 : x.toInt ≠ 22 := z_ne h22
  have e23 : x.toInt ≠ 23 := z_ne h23
  have e24 : x.toInt ≠ 24 := z_ne h24
  omega
theorem z_nIsub7 {L : Nat} (h : L ≤ 3584) : (Int32.ofNat L - 7).toInt = (L : Int) - 7 := by
  rw [Int32.toInt_sub, show (Int32.ofNat L).toInt = (L : Int) from nI_toInt (by omega), show (7 : Int32).toInt = 7 from rfl, Int.bmod_def]
  omega
theorem z_lawIn {L k : Nat} (hL : L ≤ 3584) (hk : 7 * k ≤ L) (h : ¬ Int32.ofNat L - 7 < nI (7 * k)) : 7 * k + 7 ≤ L := by
  rw [Int32.lt_iff_toInt_lt, z_nIsub7 hL, nI_toInt (by omega)] at h
  omega
theorem z_lawIx {L k : Nat} (hL : L ≤ 3584) (h : 7 * k + 7 ≤ L) (j : Nat) (hj : j < 7) : vp_in (nI (7 * k) + nI j) L := by
  rw [nI_add]
  exact vp_in_nI (by omega) (by omega)
