/-! the world of one LegBench and one LegBenchModel: 110 cells in a fixed order, their addresses q, their numbers S -/
abbrev vwCl : List vw_C := [(RX0, TX0, 3), (RX1, TX1, 2), (RX2, TX2, 1), (RX3, TX3, 5), (RX4, TX4, 9), (RX5, TX5, 7), (RX6, TX6, 10), (RX7, TX7, 7), (RX8, TX8, 22)]
abbrev zT : Type := (Nat → Nat → Int32) × (Nat → Nat → Int64)
def zsi (S : zT) (k j : Nat) (v : Int32) : zT := (fun k' => if k' = k then upd (S.1 k) j v else S.1 k', S.2)
def zsl (S : zT) (k j : Nat) (v : Int64) : zT := (S.1, fun k' => if k' = k then vp_updL (S.2 k) j v else S.2 k')
theorem zsi_k (S : zT) (k j : Nat) (v : Int32) : (zsi S k j v).1 k = upd (S.1 k) j v := by simp [zsi]
theorem zsi_n {S : zT} {k k' : Nat} (j : Nat) (v : Int32) (h : k' ≠ k) : (zsi S k j v).1 k' = S.1 k' := by simp [zsi, h]
theorem zsi_2 (S : zT) (k j : Nat) (v : Int32) : (zsi S k j v).2 = S.2 := rfl
theorem zsl_k (S : zT) (k j : Nat) (v : Int64) : (zsl S k j v).2 k = vp_updL (S.2 k) j v := by simp [zsl]
theorem zsl_n {S : zT} {k k' : Nat} (j : Nat) (v : Int64) (h : k' ≠ k) : (zsl S k j v).2 k' = S.2 k' := by simp [zsl, h]
theorem zsl_1 (S : zT) (k j : Nat) (v : Int64) : (zsl S k j v).1 = S.1 := rfl
abbrev zSh : Type := (Nat → Nat) → (Nat → Int32) → (Nat → Int64) → va_E
abbrev sRow (b : Nat) : zSh := fun q _ _ => .inr (2, [.ref (q (b + 1))])
abbrev sArr (cI : ClassId × ClassId) (n : Nat) : zSh := fun _ s _ => .inl (cI.1, n, .inl s)
abbrev sRat : zSh := fun _ _ l => .inr (1, [.long (l 0), .long (l 1)])
abbrev sWk (b : Nat) : zSh := fun q s _ => .inr (6, [.int (s 0), .int (s 1), .int (s 2), .int (s 3), .int (s 4), .int (s 5), .int (s 6), .ref (q (b + 1)), .ref (q (b + 3)), .ref (q (b + 5))])
abbrev sHis : zSh := fun q s _ => .inr (0, [.ref (q 9), .int (s 1), .int (s 2)])
abbrev sWks (cI : ClassId × ClassId) : zSh := fun q _ _ => .inl (cI.2, 8, .inr (.inr (.inr (.inr (fun i => some (q (10 + 7 * i)))))))
abbrev sLB : zSh := fun q _ _ => .inr (7, [.ref (q 1), .ref (q 8), .ref (q 66), .ref (q 67), .ref (q 68), .ref (q 98), .ref (q 99)])
abbrev sRows : zSh := fun q s _ => .inr (3, [.ref (q 67), .ref (q 68), .ref (q 94), .ref (q 96), .int (s 4)])
abbrev sStr : zSh := fun q s _ => .inr (5, [.ref (q 68), .ref (q 75), .ref (q 77), .ref (q 79), .int (s 4), .ref (q 81), .ref (q 93)])
abbrev sSpan : zSh := fun q s _ => .inr (4, [.ref (q 82), .ref (q 84), .ref (q 86), .ref (q 88), .int (s 4), .int (s 5), .ref (q 90), .ref (q 91), .ref (q 92)])
abbrev sMod : zSh := fun q s l => .inr (8, [.int (s 0), .ref (q 102), .ref (q 103), .int (s 3), .int (s 4), .int (s 5), .ref (q 104), .ref (q 105), .int (s 8), .int (s 9), .int (s 10), .int (s 11), .int (s 12), .long (l 13), .long (l 14), .long (l 15), .long (l 16), .int (s 17), .ref (q 106), .ref (q 107), .ref (q 108), .ref (q 109)])
def zSH (cI : ClassId × ClassId) : List zSh := [sLB,
  sWk 1, sRow 2, sArr cI 8, sRow 4, sArr cI 8, sRow 6, sArr cI 16,
  sHis, sWks cI,
  sWk 10, sRow 11, sArr cI 8, sRow 13, sArr cI 8, sRow 15, sArr cI 16,
  sWk 17, sRow 18, sArr cI 8, sRow 20, sArr cI 8, sRow 22, sArr cI 16,
  sWk 24, sRow 25, sArr cI 8, sRow 27, sArr cI 8, sRow 29, sArr cI 16,
  sWk 31, sRow 32, sArr cI 8, sRow 34, sArr cI 8, sRow 36, sArr cI 16,
  sWk 38, sRow 39, sArr cI 8, sRow 41, sArr cI 8, sRow 43, sArr cI 16,
  sWk 45, sRow 46, sArr cI 8, sRow 48, sArr cI 8, sRow 50, sArr cI 16,
  sWk 52, sRow 53, sArr cI 8, sRow 55, sArr cI 8, sRow 57, sArr cI 16,
  sWk 59, sRow 60, sArr cI 8, sRow 62, sArr cI 8, sRow 64, sArr cI 16,
  sRows, sStr,
  sWk 68, sRow 69, sArr cI 8, sRow 71, sArr cI 8, sRow 73, sArr cI 16,
  sRow 75, sArr cI 128, sRow 77, sArr cI 8, sRow 79, sArr cI 256,
  sSpan, sRow 82, sArr cI 8, sRow 84, sArr cI 8, sRow 86, sArr cI 8, sRow 88, sArr cI 8, sRat, sRat, sRat,
  sRat, sRow 94, sArr cI 8, sRow 96, sArr cI 79, sRat, sRow 99, sArr cI 256,
  sMod, sArr cI 48, sArr cI 384, sArr cI 8, sArr cI 8, sArr cI 48, sArr cI 8, sArr cI 256, sArr cI 256]
def zIs (cI : ClassId × ClassId) (cW : List zSh) : Prop := cW = zSH cI
def isRow (cI : ClassId × ClassId) (cW : List zSh) (b n : Nat) : Prop := cW[b]? = some (sRow b) ∧ cW[b + 1]? = some (sArr cI n)
def isRat (cI : ClassId × ClassId) (cW : List zSh) (b : Nat) : Prop := cW[b]? = some sRat
def isWk (cI : ClassId × ClassId) (cW : List zSh) (b : Nat) : Prop := cW[b]? = some (sWk b) ∧ isRow cI cW (b + 1) 8 ∧ isRow cI cW (b + 3) 8 ∧ isRow cI cW (b + 5) 16
def zgo (q : Nat → Nat) (S : zT) : Nat → List zSh → va_W
  | _, [] => []
  | i, f :: r => (q i, f q (S.1 i) (S.2 i)) :: zgo q S (i + 1) r
def zWd (_cI : ClassId × ClassId) (cW : List zSh) (q : Nat → Nat) (S : zT) : va_W := zgo q S 0 cW
theorem zgo_get {q : Nat → Nat} {S : zT} : ∀ (sh : List zSh) (i k : Nat), (zgo q S i sh)[k]? = (sh[k]?).map (fun f => (q (i + k), f q (S.1 (i + k)) (S.2 (i + k))))
  | [], i, k => by simp [zgo]
  | f :: r, i, 0 => by simp [zgo]
  | f :: r, i, k + 1 => by
    have h := zgo_get (q := q) (S := S) r (i + 1) k
    simp only [zgo, List.getElem?_cons_succ, h]
    rw [show i + 1 + k = i + (k + 1) by omega]
theorem zWd_at (cI : ClassId × ClassId) (cW : List zSh) (q : Nat → Nat) (S : zT) (k : Nat) : (zWd cI cW q S)[k]? = (cW[k]?).map (fun f => (q k, f q (S.1 k) (S.2 k))) := by
  have h := zgo_get (q := q) (S := S) cW 0 k
  simp only [Nat.zero_add] at h
  exact h
theorem zWd_get {cI : ClassId × ClassId} {cW : List zSh} {q : Nat → Nat} {S : zT} {k : Nat} {f : zSh} (h : cW[k]? = some f) : (zWd cI cW q S)[k]? = some (q k, f q (S.1 k) (S.2 k)) := by
  rw [zWd_at, h]; rfl
theorem zWd_get' {cI : ClassId × ClassId} {cW : List zSh} {q : Nat → Nat} {S : zT} {k : Nat} {x : Nat × va_E} (h : (zWd cI cW q S)[k]? = some x) : k < cW.length ∧ x.1 = q k := by
  rw [zWd_at] at h
  simp only [Option.map_eq_some_iff] at h
  obtain ⟨f, h1, h2⟩ := h
  have h3 : k < cW.length := (List.getElem?_eq_some_iff.mp h1).1
  exact ⟨h3, by rw [← h2]⟩
theorem zWd_set {cI : ClassId × ClassId} {cW : List zSh} {q : Nat → Nat} {S S' : zT} {k : Nat} {f : zSh} {e : va_E} (h : cW[k]? = some f) (he : e = f q (S'.1 k) (S'.2 k)) (h1 : ∀ k', k' ≠ k → S'.1 k' = S.1 k') (h2 : ∀ k', k' ≠ k → S'.2 k' = S.2 k') : (zWd cI cW q S).set k (q k, e) = zWd cI cW q S' := by
  apply List.ext_getElem?
  intro i
  rw [List.getElem?_set]
  by_cases hi : k = i
  · subst hi
    rw [zWd_get (S := S') h]
    have hl : k < (zWd cI cW q S).length := by
      have := (List.getElem?_eq_some_iff.mp (zWd_get (cI := cI) (q := q) (S := S) h)).1
      exact this
    simp [hl, he]
  · have hi' : i ≠ k := fun z => hi z.symm
    simp only [hi, if_false, zWd_at, h1 i hi', h2 i hi']
def zI (cW : List zSh) (q : Nat → Nat) : Prop := ∀ i j : Nat, i < cW.length → j < cW.length → q i = q j → i = j
def zA (cW : List zSh) (q : Nat → Nat) : Nat → Prop := fun a => ∃ k, k < cW.length ∧ a = q k
theorem zWd_D {cI : ClassId × ClassId} {cW : List zSh} {q : Nat → Nat} (hq : zI cW q) (S : zT) : va_D (zA cW q) (zWd cI cW q S) := by
  refine ⟨fun i j x y hx hy h => ?_, fun k x hx => ?_⟩
  · obtain ⟨a1, a2⟩ := zWd_get' hx
    obtain ⟨b1, b2⟩ := zWd_get' hy
    exact hq i j a1 b1 (by rw [← a2, ← b2, h])
  · obtain ⟨a1, a2⟩ := zWd_get' hx
    exact ⟨k, a1, a2⟩
/-- the two calls of a nest mate's private function, as the tables have them -/
def zN (U : State) : Prop := va_Nw (.methodLinkNest RX6 75 yX7_offsetOf RX7) U ∧ va_Nw (.methodLinkNest RX3 65 yX7_rowsOf RX7) U
abbrev zty (cI : ClassId × ClassId) : List (ClassId × FieldType) := [(cI.1, .int), (cI.2, .object RX6)]
def zSt (dC : Nat → ClassId) (dI : Nat → Nat → Nat) (cI : ClassId × ClassId) (cW : List zSh) (q : Nat → Nat) (S : zT) (U : State) : Prop := va_P (dC, dI) vwCl (zWd cI cW q S) U.heap ∧ va_K (dC, dI) vwCl (zty cI) U ∧ zN U
def zB (dC : Nat → ClassId) (dI : Nat → Nat → Nat) (cI : ClassId × ClassId) (cW : List zSh) (q : Nat → Nat) (S : zT) (U : State) : Prop := va_P (dC, dI) vwCl (zWd cI cW q S) U.heap
theorem zSt_blind {dC : Nat → ClassId} {dI : Nat → Nat → Nat} {cI : ClassId × ClassId} {cW : List zSh} {q : Nat → Nat} {S : zT} (av : List Value) : FrameBlind (va_Pc av (zSt dC dI cI cW q S)) := by
  intro a U g mk h
  obtain ⟨h0, h1, h2, h3, h4⟩ := h
  exact ⟨h0, h1, va_K.moved (u := U) (U := U.calling g mk a) (Vm.Alike.refl U.vm) h2, va_Nw.same rfl rfl h3, va_Nw.same rfl rfl h4⟩
theorem zSt_of {dC : Nat → ClassId} {dI : Nat → Nat → Nat} {cI : ClassId × ClassId} {cW : List zSh} {q : Nat → Nat} {S : zT} {s U : State} {H : Heap} (hP : va_P (dC, dI) vwCl (zWd cI cW q S) H) (hK : va_K (dC, dI) vwCl (zty cI) s) (hN : zN s) (hU : U.heap = H) (hW : s.WarmedH U.vm) : zSt dC dI cI cW q S U :=
  ⟨by rw [hU]; exact hP, va_K.moved hW.alike hK, hN.1.warmM hW, hN.2.warmM hW⟩
/-- contracts (zC.) and what a method comes to (zG.): an int, a long, nothing, an object of a known place, a Walker or null -/
def zCi (l : Launch) (dC : Nat → ClassId) (dI : Nat → Nat → Nat) (cI : ClassId × ClassId) (cW : List zSh) (q : Nat → Nat) (y : MethodName) (ws : List Cond) (rm : Room) (av : List Value) (S : zT) (o : Int32 × zT) : Prop := Met l y ws rm (va_Pc av (zSt dC dI cI cW q S)) (va_Qi (fun r' u => r' = o.1 ∧ u = o.2) (zB dC dI cI cW q) (zA cW q)) 0 0 (zA cW q)
def zGi (dC : Nat → ClassId) (dI : Nat → Nat → Nat) (cI : ClassId × ClassId) (cW : List zSh) (q : Nat → Nat) (below : List Frame) (args : Array Value) (s : State) (o : Int32 × zT) : State → Prop := MQ below (va_Qi (fun r' u => r' = o.1 ∧ u = o.2) (zB dC dI cI cW q) (zA cW q)) args s 0 0 (zA cW q)
def zCl (l : Launch) (dC : Nat → ClassId) (dI : Nat → Nat → Nat) (cI : ClassId × ClassId) (cW : List zSh) (q : Nat → Nat) (y : MethodName) (ws : List Cond) (rm : Room) (av : List Value) (S : zT) (o : Int64 × zT) : Prop := Met l y ws rm (va_Pc av (zSt dC dI cI cW q S)) (va_Ql (fun r' u => r' = o.1 ∧ u = o.2) (zB dC dI cI cW q) (zA cW q)) 0 0 (zA cW q)
def zGl (dC : Nat → ClassId) (dI : Nat → Nat → Nat) (cI : ClassId × ClassId) (cW : List zSh) (q : Nat → Nat) (below : List Frame) (args : Array Value) (s : State) (o : Int64 × zT) : State → Prop := MQ below (va_Ql (fun r' u => r' = o.1 ∧ u = o.2) (zB dC dI cI cW q) (zA cW q)) args s 0 0 (zA cW q)
def zCv (l : Launch) (dC : Nat → ClassId) (dI : Nat → Nat → Nat) (cI : ClassId × ClassId) (cW : List zSh) (q : Nat → Nat) (y : MethodName) (ws : List Cond) (rm : Room) (av : List Value) (S : zT) (o : zT) : Prop := Met l y ws rm (va_Pc av (zSt dC dI cI cW q S)) (va_Qv (fun u => u = o) (zB dC dI cI cW q) (zA cW q)) 0 0 (zA cW q)
def zGv (dC : Nat → ClassId) (dI : Nat → Nat → Nat) (cI : ClassId × ClassId) (cW : List zSh) (q : Nat → Nat) (below : List Frame) (args : Array Value) (s : State) (o : zT) : State → Prop := MQ below (va_Qv (fun u => u = o) (zB dC dI cI cW q) (zA cW q)) args s 0 0 (zA cW q)
def zCs (l : Launch) (dC : Nat → ClassId) (dI : Nat → Nat → Nat) (cI : ClassId × ClassId) (cW : List zSh) (q : Nat → Nat) (y : MethodName) (ws : List Cond) (rm : Room) (av : List Value) (S : zT) (k0 : Nat) (o : zT) : Prop := Met l y ws rm (va_Pc av (zSt dC dI cI cW q S)) (va_Qq (fun r' u => r' = some (q k0) ∧ u = o) (zB dC dI cI cW q) (zA cW q)) 0 0 (zA cW q)
def zGs (dC : Nat → ClassId) (dI : Nat → Nat → Nat) (cI : ClassId × ClassId) (cW : List zSh) (q : Nat → Nat) (below : List Frame) (args : Array Value) (s : State) (k0 : Nat) (o : zT) : State → Prop := MQ below (va_Qq (fun r' u => r' = some (q k0) ∧ u = o) (zB dC dI cI cW q) (zA cW q)) args s 0 0 (zA cW q)
def zCw (l : Launch) (dC : Nat → ClassId) (dI : Nat → Nat → Nat) (cI : ClassId × ClassId) (cW : List zSh) (q : Nat → Nat) (y : MethodName) (ws : List Cond) (rm : Room) (av : List Value) (S : zT) (o : Option Nat × zT) : Prop := Met l y ws rm (va_Pc av (zSt dC dI cI cW q S)) (va_Qq (fun r' u => r' = o.1.map q ∧ u = o.2) (zB dC dI cI cW q) (zA cW q)) 0 0 (zA cW q)
def zGw (dC : Nat → ClassId) (dI : Nat → Nat → Nat) (cI : ClassId × ClassId) (cW : List zSh) (q : Nat → Nat) (below : List Frame) (args : Array Value) (s : State) (o : Option Nat × zT) : State → Prop := MQ below (va_Qq (fun r' u => r' = o.1.map q ∧ u = o.2) (zB dC dI cI cW q) (zA cW q)) args s 0 0 (zA cW q)
/-- pieces of the pure programs -/
def zfix {β : Type} (bot : β) (F : β → β) : Nat → β
  | 0 => bot
  | n + 1 => F (zfix bot F n)
def zF : Nat := 4096
def zlet {α : Type} {R : Type} (S : α) (f : α → Option R) : Option R := f S
def zbi {R : Type} (x : Option (Int32 × zT)) (f : Int32 → zT → Option R) : Option R := match x with
  | some (r, S) => f r S
  | none => none
def zbl {R : Type} (x : Option (Int64 × zT)) (f : Int64 → zT → Option R) : Option R := match x with
  | some (r, S) => f r S
  | none => none
def zwk (k : Nat) : Prop := k = 10 ∨ k = 17 ∨ k = 24 ∨ k = 31 ∨ k = 38 ∨ k = 45 ∨ k = 52 ∨ k = 59
theorem zwk_ok {cI : ClassId × ClassId} {cW : List zSh} (hW : zIs cI cW) {k : Nat} (h : zwk k) : isWk cI cW k := by
  subst hW
  rcases h with rfl | rfl | rfl | rfl | rfl | rfl | rfl | rfl <;> exact ⟨rfl, ⟨rfl, rfl⟩, ⟨rfl, rfl⟩, ⟨rfl, rfl⟩⟩
def zbw {R : Type} (x : Option (Option Nat × zT)) (f : zT → Option R) (g : Nat → zT → Option R) : Option R := match x with
  | some (none, S) => f S
  | some (some k, S) => if k = 10 ∨ k = 17 ∨ k = 24 ∨ k = 31 ∨ k = 38 ∨ k = 45 ∨ k = 52 ∨ k = 59 then g k S else none
  | none => none
def zbv {R : Type} (x : Option zT) (f : zT → Option R) : Option R := match x with
  | some S => f S
  | none => none
theorem zbi_inv {R : Type} {x : Option (Int32 × zT)} {f : Int32 → zT → Option R} {o : R} (h : zbi x f = some o) : ∃ r S, x = some (r, S) ∧ f r S = some o := by
  match x, h with
  | some (r, S), h => exact ⟨r, S, rfl, h⟩
theorem zbl_inv {R : Type} {x : Option (Int64 × zT)} {f : Int64 → zT → Option R} {o : R} (h : zbl x f = some o) : ∃ r S, x = some (r, S) ∧ f r S = some o := by
  match x, h with
  | some (r, S), h => exact ⟨r, S, rfl, h⟩
theorem zbv_inv {R : Type} {x : Option zT} {f : zT → Option R} {o : R} (h : zbv x f = some o) : ∃ S, x = some S ∧ f S = some o := by
  match x, h with
  | some S, h => exact ⟨S, rfl, h⟩
theorem zif_t {R : Type} {c : Prop} {i : Decidable c} {a b : Option R} {o : R} (hc : c) (h : (@ite _ c i a b) = some o) : a = some o := by rwa [if_pos hc] at h
theorem zif_f {R : Type} {c : Prop} {i : Decidable c} {a b : Option R} {o : R} (hc : ¬ c) (h : (@ite _ c i a b) = some o) : b = some o := by rwa [if_neg hc] at h
theorem zif_g {R : Type} {c : Prop} {i : Decidable c} {a : Option R} {o : R} (h : (@ite _ c i a none) = some o) : c ∧ a = some o := by
  by_cases hc : c
  · exact ⟨hc, zif_t hc h⟩
  · rw [if_neg hc] at h; cases h
theorem zbw_inv {R : Type} {x : Option (Option Nat × zT)} {f : zT → Option R} {g : Nat → zT → Option R} {o : R} (h : zbw x f g = some o) : (∃ S, x = some (none, S) ∧ f S = some o) ∨ (∃ k S, x = some (some k, S) ∧ zwk k ∧ g k S = some o) := by
  match x, h with
  | some (none, S), h => exact Or.inl ⟨S, rfl, h⟩
  | some (some k, S), h => exact Or.inr ⟨k, S, rfl, (zif_g h).1, (zif_g h).2⟩
def zushr (x y : Int32) : Int32 := (x.toUInt32 >>> (y.toUInt32 &&& Int32.toUInt32 31)).toInt32
theorem pW_1 {cI : ClassId × ClassId} {cW : List zSh} (hW : zIs cI cW) : isWk cI cW 1 := by subst hW; exact ⟨rfl, ⟨rfl, rfl⟩, ⟨rfl, rfl⟩, ⟨rfl, rfl⟩⟩
theorem pW_68 {cI : ClassId × ClassId} {cW : List zSh} (hW : zIs cI cW) : isWk cI cW 68 := by subst hW; exact ⟨rfl, ⟨rfl, rfl⟩, ⟨rfl, rfl⟩, ⟨rfl, rfl⟩⟩
theorem pR_94 {cI : ClassId × ClassId} {cW : List zSh} (hW : zIs cI cW) : isRow cI cW 94 8 := by subst hW; exact ⟨rfl, rfl⟩
theorem pR_96 {cI : ClassId × ClassId} {cW : List zSh} (hW : zIs cI cW) : isRow cI cW 96 79 := by subst hW; exact ⟨rfl, rfl⟩
theorem pR_75 {cI : ClassId × ClassId} {cW : List zSh} (hW : zIs cI cW) : isRow cI cW 75 128 := by subst hW; exact ⟨rfl, rfl⟩
theorem pR_77 {cI : ClassId × ClassId} {cW : List zSh} (hW : zIs cI cW) : isRow cI cW 77 8 := by subst hW; exact ⟨rfl, rfl⟩
theorem pR_79 {cI : ClassId × ClassId} {cW : List zSh} (hW : zIs cI cW) : isRow cI cW 79 256 := by subst hW; exact ⟨rfl, rfl⟩
theorem pR_82 {cI : ClassId × ClassId} {cW : List zSh} (hW : zIs cI cW) : isRow cI cW 82 8 := by subst hW; exact ⟨rfl, rfl⟩
theorem pR_84 {cI : ClassId × ClassId} {cW : List zSh} (hW : zIs cI cW) : isRow cI cW 84 8 := by subst hW; exact ⟨rfl, rfl⟩
theorem pR_86 {cI : ClassId × ClassId} {cW : List zSh} (hW : zIs cI cW) : isRow cI cW 86 8 := by subst hW; exact ⟨rfl, rfl⟩
theorem pR_88 {cI : ClassId × ClassId} {cW : List zSh} (hW : zIs cI cW) : isRow cI cW 88 8 := by subst hW; exact ⟨rfl, rfl⟩
theorem pR_99 {cI : ClassId × ClassId} {cW : List zSh} (hW : zIs cI cW) : isRow cI cW 99 256 := by subst hW; exact ⟨rfl, rfl⟩
theorem pT_90 {cI : ClassId × ClassId} {cW : List zSh} (hW : zIs cI cW) : isRat cI cW 90 := by subst hW; exact rfl
theorem pT_91 {cI : ClassId × ClassId} {cW : List zSh} (hW : zIs cI cW) : isRat cI cW 91 := by subst hW; exact rfl
theorem pT_92 {cI : ClassId × ClassId} {cW : List zSh} (hW : zIs cI cW) : isRat cI cW 92 := by subst hW; exact rfl
theorem pT_93 {cI : ClassId × ClassId} {cW : List zSh} (hW : zIs cI cW) : isRat cI cW 93 := by subst hW; exact rfl
theorem pT_98 {cI : ClassId × ClassId} {cW : List zSh} (hW : zIs cI cW) : isRat cI cW 98 := by subst hW; exact rfl
theorem pA_102 {cI : ClassId × ClassId} {cW : List zSh} (hW : zIs cI cW) : cW[102]? = some (sArr cI 48) := by subst hW; exact rfl
theorem pA_103 {cI : ClassId × ClassId} {cW : List zSh} (hW : zIs cI cW) : cW[103]? = some (sArr cI 384) := by subst hW; exact rfl
theorem pA_104 {cI : ClassId × ClassId} {cW : List zSh} (hW : zIs cI cW) : cW[104]? = some (sArr cI 8) := by subst hW; exact rfl
theorem pA_105 {cI : ClassId × ClassId} {cW : List zSh} (hW : zIs cI cW) : cW[105]? = some (sArr cI 8) := by subst hW; exact rfl
theorem pA_106 {cI : ClassId × ClassId} {cW : List zSh} (hW : zIs cI cW) : cW[106]? = some (sArr cI 48) := by subst hW; exact rfl
theorem pA_107 {cI : ClassId × ClassId} {cW : List zSh} (hW : zIs cI cW) : cW[107]? = some (sArr cI 8) := by subst hW; exact rfl
theorem pA_108 {cI : ClassId × ClassId} {cW : List zSh} (hW : zIs cI cW) : cW[108]? = some (sArr cI 256) := by subst hW; exact rfl
theorem pA_109 {cI : ClassId × ClassId} {cW : List zSh} (hW : zIs cI cW) : cW[109]? = some (sArr cI 256) := by subst hW; exact rfl
theorem p_0 {cI : ClassId × ClassId} {cW : List zSh} (hW : zIs cI cW) : cW[0]? = some sLB := by subst hW; exact rfl
theorem p_8 {cI : ClassId × ClassId} {cW : List zSh} (hW : zIs cI cW) : cW[8]? = some sHis := by subst hW; exact rfl
theorem p_66 {cI : ClassId × ClassId} {cW : List zSh} (hW : zIs cI cW) : cW[66]? = some sRows := by subst hW; exact rfl
theorem p_67 {cI : ClassId × ClassId} {cW : List zSh} (hW : zIs cI cW) : cW[67]? = some sStr := by subst hW; exact rfl
theorem p_81 {cI : ClassId × ClassId} {cW : List zSh} (hW : zIs cI cW) : cW[81]? = some sSpan := by subst hW; exact rfl
theorem p_101 {cI : ClassId × ClassId} {cW : List zSh} (hW : zIs cI cW) : cW[101]? = some sMod := by subst hW; exact rfl
theorem p_9 {cI : ClassId × ClassId} {cW : List zSh} (hW : zIs cI cW) : cW[9]? = some (sWks cI) := by subst hW; exact rfl
theorem zno {R : Type} {o : R} {P : Prop} (h : (none : Option R) = some o) : P := by cases h
abbrev zshl (x y : Int32) : Int32 := x <<< (y &&& 31)
abbrev zshr (x y : Int32) : Int32 := x >>> (y &&& 31)
