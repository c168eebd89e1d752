def Xw (w : Nat → Int32) (i : Nat) : Int := (w (7 + i)).toInt - (w 4).toInt
def Yw (w : Nat → Int32) (n t i : Nat) : Int := (fy_w w n i t).toInt - 2 * (w 5).toInt
def Yp (w : Nat → Int32) (i : Nat) : Int := 2 * (w (15 + i)).toInt - 2 * (w 5).toInt
def bitI (s : Int32) (i : Nat) : Bool := decide ((zshr s (nI i)) &&& 1 = 1)
def F_w (w : Nat → Int32) (K n t : Nat) : pQ := Fq (fun i => D_w w i t) (Xw w) (Yw w n t) K
def F_p (w : Nat → Int32) (K : Nat) (s : Int32) : pQ := Fq (bitI s) (Xw w) (Yp w) K
theorem fy_int {w : Nat → Int32} {K n i t : Nat} (hw : wfW w K n) (hi : i < K) : (fy_w w n i t).toInt = 2 * (w (15 + i)).toInt + (w 2).toInt * ld_d (D_w w i) n t ∧ -144 ≤ (w 2).toInt * ld_d (D_w w i) n t ∧ (w 2).toInt * ld_d (D_w w i) n t ≤ 144 := by
  have hv := hw.2.2.2.1
  have hy := (hw.2.2.2.2.2.2.2.1 i hi).2
  have hl := ld_bd (D_w w i) (n := n) (t := t) hw.2.1.2.2
  have m := mul_bd (show -9 ≤ (w 2).toInt by omega) hv.2 (show -16 ≤ ld_d (D_w w i) n t by omega) hl.2
  have tl : (iZ (ld_d (D_w w i) n t)).toInt = ld_d (D_w w i) n t := iZ_toInt (by omega) (by omega)
  have t2 : (2 : Int32).toInt = 2 := by decide
  refine ⟨?_, by omega, by omega⟩
  unfold fy_w
  have e1 : (2 * w (15 + i)).toInt = 2 * (w (15 + i)).toInt := by rw [tI_mul (by rw [t2]; omega) (by rw [t2]; omega), t2]
  have e2 : (w 2 * iZ (ld_d (D_w w i) n t)).toInt = (w 2).toInt * ld_d (D_w w i) n t := by rw [tI_mul (by rw [tl]; omega) (by rw [tl]; omega), tl]
  rw [tI_add (by rw [e1, e2]; omega) (by rw [e1, e2]; omega), e1, e2]
theorem XY_bd {w : Nat → Int32} {K n i t : Nat} (hw : wfW w K n) (hi : i < K) : (-40 ≤ Xw w i ∧ Xw w i ≤ 40) ∧ (-300 ≤ Yw w n t i ∧ Yw w n t i ≤ 300) ∧ (-300 ≤ Yp w i ∧ Yp w i ≤ 300) := by
  have h1 := fy_int (t := t) hw hi
  have h2 := hw.2.2.2.2.2.2.2.1 i hi
  have h3 := hw.2.2.2.2.2.1
  have h4 := hw.2.2.2.2.2.2.1
  unfold Xw Yw Yp
  omega
theorem Fw_B {w : Nat → Int32} {K n : Nat} (hw : wfW w K n) (t : Nat) : fB (F_w w K n t) := Fq_B (fun i hi _ => ⟨(XY_bd (t := t) hw hi).1, (XY_bd (t := t) hw hi).2.1⟩)
theorem Fp_B {w : Nat → Int32} {K n : Nat} (hw : wfW w K n) (s : Int32) : fB (F_p w K s) := Fq_B (fun i hi _ => ⟨(XY_bd (t := 0) hw hi).1, (XY_bd (t := 0) hw hi).2.2⟩)
theorem Fw_p {w : Nat → Int32} {K n : Nat} (hw : wfW w K n) (h0 : w 2 = 0) (t : Nat) : F_w w K n t = F_p w K (w (23 + t)) := by
  have e : ∀ i, i < K → Yw w n t i = Yp w i := fun i hi => by
    have := (fy_int (t := t) hw hi).1
    rw [h0, show (0 : Int32).toInt = 0 by decide, Int.zero_mul] at this
    unfold Yw Yp; omega
  unfold F_w F_p Fq
  funext x y
  apply propext
  constructor
  · rintro ⟨i, h1, h2, h3, h4⟩; exact ⟨i, h1, h2, h3, by rw [h4]; exact e i h1⟩
  · rintro ⟨i, h1, h2, h3, h4⟩; exact ⟨i, h1, h2, h3, by rw [h4]; exact (e i h1).symm⟩
/-! what the stride has read: the gait's leads, or the sets' soundness -/
def okS (w : Nat → Int32) (K : Nat) (s : Int32) : Prop := ¬ (w 1 = 2 ∧ prB K s.toNatClampNeg = false) ∧ SP (F_p w K s)
def SO2 (w : Nat → Int32) (K n : Nat) (S : zT) : Prop := rC w K n S 68 ∧ S.1 67 4 = 1 ∧ w 2 = 0 ∧ ∀ s : Nat, s < 2 ^ K → tf (S.1 80 s) (okS w K (nI s))
def SO (w : Nat → Int32) (K n : Nat) (S : zT) : Prop := SO1 w K n S ∨ SO2 w K n S
theorem SO1_fr {w : Nat → Int32} {K n : Nat} {S S' : zT} (h : ∀ k, 67 ≤ k → k ≤ 80 → S'.1 k = S.1 k) (hs : SO1 w K n S) : SO1 w K n S' := by
  obtain ⟨h1, h2, h3⟩ := hs
  refine ⟨rC_other (fun k a b => h k (by omega) (by omega)) h1, by rw [h 67 (by omega) (by omega)]; exact h2, fun i hi => ⟨fun t ht hd => ?_, ?_⟩⟩
  · rw [h 76 (by omega) (by omega)]; exact (h3 i hi).1 t ht hd
  · obtain ⟨x, x1, x2⟩ := (h3 i hi).2
    exact ⟨x, by rw [h 78 (by omega) (by omega)]; exact x1, x2⟩
theorem SO2_fr {w : Nat → Int32} {K n : Nat} {S S' : zT} (h : ∀ k, 67 ≤ k → k ≤ 80 → S'.1 k = S.1 k) (hs : SO2 w K n S) : SO2 w K n S' := by
  obtain ⟨h1, h2, h3, h4⟩ := hs
  exact ⟨rC_other (fun k a b => h k (by omega) (by omega)) h1, by rw [h 67 (by omega) (by omega)]; exact h2, h3, fun s hs => by rw [h 80 (by omega) (by omega)]; exact h4 s hs⟩
theorem SO_fr {w : Nat → Int32} {K n : Nat} {S S' : zT} (h : ∀ k, 67 ≤ k → k ≤ 80 → S'.1 k = S.1 k) (hs : SO w K n S) : SO w K n S' := hs.elim (fun g => Or.inl (SO1_fr h g)) (fun g => Or.inr (SO2_fr h g))
theorem SO_rC {w : Nat → Int32} {K n : Nat} {S : zT} (hs : SO w K n S) : rC w K n S 68 := hs.elim (fun g => g.1) (fun g => g.1)
theorem c_twY {w : Nat → Int32} {K n i t : Nat} {S : zT} (hw : wfW w K n) (hs : SO w K n S) (hi : i < K) (ht : t < n) (hd : D_w w i t = true) : fX5_twiceY (nI i) (nI t) S = some (fy_w w n i t, S) := by
  rcases hs with hs | hs
  · exact c_twiceY hw hs hi ht hd
  · have hK := hw.1.2.2
    have hn := hw.2.1.2.2
    have hr := hs.1
    unfold fX5_twiceY fy_w
    rw [at_in (by omega) (by omega), zbi_s, show (nI i * 16) + nI t = nI (16 * i + t) by
      rw [show (16 : Int32) = nI 16 from rfl, pk_mul, nI_add, Nat.mul_comm], at_in (by omega) (by omega), zbi_s, show S.1 (68 + 3 + 1) i = w (15 + i) from hr.2.2.1 i hi, hr.1.2.2.2.2.1, hs.2.2.1, Int32.zero_mul, Int32.zero_mul]
theorem c_gather {w : Nat → Int32} {K n t : Nat} {S : zT} (hw : wfW w K n) (ht : t < n) (hs : SO w K n S) : ∃ S', fX5_gatherFeet (nI t) S = some S' ∧ cS (F_w w K n t) 8 S' := by
  have hK := hw.1.2.2
  have hn := hw.2.1.2.2
  have key : ∀ (m i fu c : Nat) (S : zT), i + m = K → m < fu → c ≤ i → SO w K n S → cS (Fq (fun i => D_w w i t) (Xw w) (Yw w n t) i) c S → ∃ S', zfix (fun _ _ _ => none) fX5_gatherFeet_9 fu (nI t) (nI i) S = some S' ∧ ∃ c, c ≤ K ∧ cS (F_w w K n t) c S' := by
    intro m
    induction m with
    | zero =>
      intro i fu c S h1 h2 hc hs hi
      obtain ⟨fu, rfl⟩ : ∃ g, fu = g + 1 := ⟨fu - 1, by omega⟩
      have : i = K := by omega
      subst this
      refine ⟨S, ?_, c, hc, hi⟩
      rw [zfix_s]; unfold fX5_gatherFeet_9
      rw [if_pos (by rw [(SO_rC hs).1.1, hw.1.1]; exact nI_le (by omega) (by omega))]
    | succ m ih =>
      intro i fu c S h1 h2 hc hs hi
      obtain ⟨fu, rfl⟩ : ∃ g, fu = g + 1 := ⟨fu - 1, by omega⟩
      have hiK : i < K := by omega
      have bd := XY_bd (t := t) hw hiK
      rw [zfix_s]; unfold fX5_gatherFeet_9 fX5_gatherFeet_74
      rw [if_neg (by rw [(SO_rC hs).1.1, hw.1.1]; exact nI_ge (by omega) (by omega)), c_isDown hn (SO_rC hs) ht, zbi_s]
      by_cases c1 : D_w w i t = true
      · obtain ⟨S1, e1, e2⟩ := c_add (Fq_B (fun j hj _ => ⟨(XY_bd (t := t) hw (show j < K by omega)).1, (XY_bd (t := t) hw (show j < K by omega)).2.1⟩)) bd.1 bd.2.1 (show c < 8 by omega) hi
        have fr1 := frX4_add e1
        have ex : S.1 (68 + 1 + 1) i - S.1 68 2 = iZ (Xw w i) := by
          rw [show S.1 (68 + 1 + 1) i = w (7 + i) from (SO_rC hs).2.1 i hiK, (SO_rC hs).1.2.2.1]
          unfold Xw; rw [← iZ_sub, ← iZ_of, ← iZ_of]
        have ey : fy_w w n i t - (2 * S.1 68 3) = iZ (Yw w n t i) := by
          rw [(SO_rC hs).1.2.2.2.1]
          unfold Yw; rw [← iZ_sub, ← iZ_mul, ← iZ_of, ← iZ_of]; rfl
        obtain ⟨S', f1, f2⟩ := ih (i + 1) fu (c + 1) S1 (by omega) (by omega) (by omega) (SO_fr (fun k a b => fr1.cell (by simp; omega) (by omega)) hs) (by rw [Fq_t (δ := fun i => D_w w i t) (i := i) c1]; exact e2)
        refine ⟨S', ?_, f2⟩
        rw [if_pos c1, if_neg one_ne, at_in (by omega) (by omega), zbi_s, c_twY hw hs hiK ht c1, zbi_s, ex, ey, e1, zbv_s, nI_1]
        exact f1
      · obtain ⟨S', f1, f2⟩ := ih (i + 1) fu c S (by omega) (by omega) (by omega) hs (by rw [Fq_f (δ := fun i => D_w w i t) (i := i) c1]; exact hi)
        refine ⟨S', ?_, f2⟩
        rw [if_neg c1, if_pos rfl, nI_1]
        exact f1
  obtain ⟨S0, e0, c0⟩ := c_empty S
  have fr0 := frX4_empty e0
  obtain ⟨S', e1, c, hc, e2⟩ := key K 0 zF 0 S0 (by omega) (by unfold zF; omega) (by omega) (SO_fr (fun k a b => fr0.cell (by simp; omega) (by omega)) hs) (by rw [Fq_0]; exact c0)
  refine ⟨S', ?_, ?_⟩
  · unfold fX5_gatherFeet; rw [e0, zbv_s]; exact e1
  · obtain ⟨a, b, h0, h⟩ := e2
    exact ⟨a, b, by omega, h⟩
def stP (w : Nat → Int32) (K n t : Nat) : Prop := (w (23 + t) = 0 ∧ w 1 = 1 ∧ shp (E_w w) n t) ∨ (w (23 + t) ≠ 0 ∧ ¬ (w 1 = 2 ∧ prB K (w (23 + t)).toNatClampNeg = false) ∧ SP (F_w w K n t))
theorem c_steadyAt {w : Nat → Int32} {K n t : Nat} {S : zT} (hw : wfW w K n) (ht : t < n) (hs : SO w K n S) : ∃ r S', fX5_isSteadyAt (nI t) S = some (r, S') ∧ tf r (stP w K n t) := by
  have hK := hw.1.2.2
  have hn1 := hw.2.1.2.1
  have hn := hw.2.1.2.2
  have hr := SO_rC hs
  obtain ⟨s, s1, s2⟩ := hw.2.2.2.2.2.2.2.2.1 t ht
  have hs256 := pow_le256 hK
  unfold fX5_isSteadyAt
  rw [at_in (by omega) (by omega), zbi_s, show S.1 (68 + 5 + 1) t = w (23 + t) from hr.2.2.2 t ht, hr.1.2.1]
  unfold stP
  by_cases c0 : w (23 + t) = 0
  · rw [if_pos c0]
    by_cases c1 : w 1 = 1
    · obtain ⟨r, e1, e2⟩ := c_hop hw.2.1.1 hn1 hn ht hr c0
      rw [if_pos c1, e1, zbi_s]
      rcases e2 with ⟨rfl, e2⟩ | ⟨rfl, e2⟩
      · rw [if_neg one_ne]; exact ⟨1, S, rfl, tf_t (Or.inl ⟨c0, c1, e2⟩)⟩
      · rw [if_pos rfl]; exact ⟨0, S, rfl, tf_f (by rintro (⟨-, -, h⟩ | ⟨h, -⟩); exact e2 h; exact h c0)⟩
    · rw [if_neg c1]
      exact ⟨0, S, rfl, tf_f (by rintro (⟨-, h, -⟩ | ⟨h, -⟩); exact c1 h; exact h c0)⟩
  · rw [if_neg c0]
    rcases hs with hs | hs
    · rw [if_pos hs.2.1, s2, c_fits hK hw.1.1 hr, zbi_s]
      by_cases c1 : w 1 = 2 ∧ prB K s = false
      · rw [if_pos c1, if_pos rfl]
        exact ⟨0, S, rfl, tf_f (by rintro (⟨h, -⟩ | ⟨-, h, -⟩); exact c0 (s2.trans h); exact h (by rw [nI_clamp (by omega)]; exact c1))⟩
      · rw [if_neg c1, if_neg one_ne]
        obtain ⟨S1, e1, e2⟩ := c_gather hw ht (Or.inl hs)
        obtain ⟨r, f1, f2⟩ := c_holds (Fw_B hw t) (Nat.le_refl 8) e2
        rw [e1, zbv_s, f1, zbi_s, if_pos (tf_01 f2)]
        refine ⟨r, S1, rfl, tf_cg ⟨fun h => Or.inr ⟨by rw [← s2]; exact c0, by rw [nI_clamp (by omega)]; exact c1, h⟩, ?_⟩ f2⟩
        rintro (⟨h, -⟩ | ⟨-, -, h⟩)
        · exact absurd (s2.trans h) c0
        · exact h
    · have t1 := hs.2.2.2 s s1
      rw [if_neg (by rw [hs.2.1]; exact one_ne), s2]
      unfold fX5_isSound
      rw [at_in (by omega) (by omega), zbi_s, show S.1 (79 + 1) s = S.1 80 s from rfl]
      have hq : okS w K (nI s) ↔ ((nI s = 0 ∧ w 1 = 1 ∧ shp (E_w w) n t) ∨ (nI s ≠ 0 ∧ ¬ (w 1 = 2 ∧ prB K (nI s).toNatClampNeg = false) ∧ SP (F_w w K n t))) := by
        unfold okS
        rw [Fw_p hw hs.2.2.1, s2]
        constructor
        · rintro ⟨h1, h2⟩; exact Or.inr ⟨by rw [← s2]; exact c0, h1, h2⟩
        · rintro (⟨h, -⟩ | ⟨-, h⟩)
          · exact absurd (s2.trans h) c0
          · exact h
      rcases t1 with ⟨h1, h2⟩ | ⟨h1, h2⟩
      · rw [if_pos h1, zbi_s, if_pos (Or.inr rfl)]
        exact ⟨1, S, rfl, tf_t (hq.mp h2)⟩
      · rw [if_neg (by rw [h1]; exact fun h => one_ne h.symm), zbi_s, if_pos (Or.inl rfl)]
        exact ⟨0, S, rfl, tf_f (fun h => h2 (hq.mpr h))⟩
