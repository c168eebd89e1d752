noncomputable def fst_r (p : Nat → Prop) : Nat → Nat → Int32
  | 0, _ => -1
  | m + 1, s => @ite _ (p s) (Classical.propDecidable (p s)) (nI s) (fst_r p m (s + 1))
theorem fst_t {p : Nat → Prop} {m s : Nat} (h : p s) : fst_r p (m + 1) s = nI s := by unfold fst_r; rw [if_pos h]
theorem fst_f {p : Nat → Prop} {m s : Nat} (h : ¬ p s) : fst_r p (m + 1) s = fst_r p m (s + 1) := by
  rw [show fst_r p (m + 1) s = @ite _ (p s) (Classical.propDecidable (p s)) (nI s) (fst_r p m (s + 1)) from rfl, if_neg h]
theorem nI_nm1 {s : Nat} (h : s < 2 ^ 31) : nI s ≠ -1 := by
  intro e
  have := congrArg Int32.toInt e
  rw [iZ_nI, iZ_toInt (by omega) (by omega)] at this
  have t : (-1 : Int32).toInt = -1 := by decide
  omega
theorem fst_neg {p : Nat → Prop} : ∀ (m s : Nat), s + m < 2 ^ 31 → (fst_r p m s = -1 ↔ ∀ j, s ≤ j → j < s + m → ¬ p j)
  | 0, s, _ => ⟨fun _ j h1 h2 => by omega, fun _ => rfl⟩
  | m + 1, s, h => by
    by_cases c : p s
    · rw [fst_t c]
      exact ⟨fun e => absurd e (nI_nm1 (by omega)), fun g => absurd c (g s (by omega) (by omega))⟩
    · rw [fst_f c, fst_neg m (s + 1) (by omega)]
      constructor
      · intro g j h1 h2
        by_cases e : j = s
        · subst e; exact c
        · exact g j (by omega) (by omega)
      · intro g j h1 h2; exact g j (by omega) (by omega)
def brP (w : Nat → Int32) (n i : Nat) : Prop := ∃ t, t < n ∧ D_w w i t = true ∧ 2 * (w 3).toInt < (w 2).toInt * (st_d (D_w w i) n t : Int)
def wkP (w : Nat → Int32) (K n : Nat) : Prop := (∀ t, t < n → stP w K n t) ∧ ∀ i, i < K → ¬ brP w n i
noncomputable def ff_v (w : Nat → Int32) (K n : Nat) : Int32 := fst_r (fun t => ¬ stP w K n t) n 0
noncomputable def br_v (w : Nat → Int32) (K n : Nat) : Int32 := fst_r (brP w n) K 0
noncomputable def why_v (w : Nat → Int32) (K n : Nat) : Int32 := if ff_v w K n = -1 then (if br_v w K n = -1 then -1 else 100 + br_v w K n) else ff_v w K n
theorem st_lt (d : Nat → Bool) {n t : Nat} (hn : 1 ≤ n) : st_d d n t < n := by unfold st_d; split <;> omega
theorem c_fall {w : Nat → Int32} {K n : Nat} {S : zT} (hw : wfW w K n) (hs : SO w K n S) : ∃ S', fX5_firstFall S = some (ff_v w K n, S') := by
  have hn := hw.2.1.2.2
  have key : ∀ (m t fu : Nat) (S : zT), t + m = n → m < fu → SO w K n S → ∃ S', zfix (fun _ _ => none) fX5_firstFall_2 fu (nI t) S = some (fst_r (fun t => ¬ stP w K n t) m t, S') := by
    intro m
    induction m with
    | zero =>
      intro t fu S h1 h2 hs
      obtain ⟨fu, rfl⟩ : ∃ g, fu = g + 1 := ⟨fu - 1, by omega⟩
      refine ⟨S, ?_⟩
      rw [zfix_s]; unfold fX5_firstFall_2
      rw [if_pos (by rw [(SO_rC hs).1.2.2.2.2.2.2, hw.2.1.1]; exact nI_le (by omega) (by omega))]
      rfl
    | succ m ih =>
      intro t fu S h1 h2 hs
      obtain ⟨fu, rfl⟩ : ∃ g, fu = g + 1 := ⟨fu - 1, by omega⟩
      obtain ⟨r, S1, e1, t1⟩ := c_steadyAt hw (show t < n by omega) hs
      have fr := frX5_isSteadyAt e1
      rw [zfix_s]; unfold fX5_firstFall_2
      rw [if_neg (by rw [(SO_rC hs).1.2.2.2.2.2.2, hw.2.1.1]; exact nI_ge (by omega) (by omega)), e1, zbi_s]
      rcases t1 with ⟨rfl, t1⟩ | ⟨rfl, t1⟩
      · obtain ⟨S2, e2⟩ := ih (t + 1) fu S1 (by omega) (by omega) (SO_fr (fun k a b => fr.cell (by simp; omega) (by omega)) hs)
        rw [if_neg one_ne, fst_f (fun h => h t1), nI_1]
        exact ⟨S2, e2⟩
      · rw [if_pos rfl, fst_t t1]
        exact ⟨S1, rfl⟩
  exact key n 0 zF S (by omega) (by unfold zF; omega) hs
theorem c_reach {w : Nat → Int32} {K n : Nat} {S : zT} (hw : wfW w K n) (hs : SO w K n S) : fX5_firstBeyondReach S = some (br_v w K n, S) := by
  have hK := hw.1.2.2
  have hn1 := hw.2.1.2.1
  have hn := hw.2.1.2.2
  have hv := hw.2.2.2.1
  have hre := hw.2.2.2.2.1
  have hr := SO_rC hs
  have one : ∀ i, i < K → ((w 2 * S.1 78 i ≤ 2 * w 3) ↔ ¬ brP w n i) := by
    intro i hi
    have t3 : 2 * w 3 = iZ (2 * (w 3).toInt) := tI_ii _
    rcases hs with hs | hs
    · obtain ⟨x, x1, x2, x3, x4⟩ := (hs.2.2 i hi).2
      have m := mul_bd (show -9 ≤ (w 2).toInt by omega) hv.2 (show -16 ≤ (x : Int) by omega) (show (x : Int) ≤ 16 by omega)
      rw [x1, t3, iZ_nI, iZ_of (w 2), iZ_mul, iZ_le (by omega) (by omega) (by omega) (by omega)]
      constructor
      · rintro h ⟨t, t1, t2, t4⟩
        have := x3 t t1 t2
        have : (w 2).toInt * (st_d (D_w w i) n t : Int) ≤ (w 2).toInt * (x : Int) := Int.mul_le_mul_of_nonneg_left (by omega) hv.1
        omega
      · intro h
        rcases x4 with rfl | ⟨t, t1, t2, t4⟩
        · rw [show ((0 : Nat) : Int) = 0 from rfl, Int.mul_zero]; omega
        · rcases Int.lt_or_le (2 * (w 3).toInt) ((w 2).toInt * (x : Int)) with g | g
          · exact absurd ⟨t, t1, t2, by rw [t4]; exact g⟩ h
          · exact g
    · have z : w 2 = 0 := hs.2.2.1
      rw [t3, z, Int32.zero_mul, show (0 : Int32) = iZ 0 from rfl, iZ_le (by omega) (by omega) (by omega) (by omega)]
      refine ⟨fun _ => ?_, fun _ => by omega⟩
      rintro ⟨t, -, -, t4⟩
      rw [z, show (0 : Int32).toInt = 0 by decide, Int.zero_mul] at t4
      omega
  have key : ∀ (m i fu : Nat), i + m = K → m < fu → zfix (fun _ _ => none) fX5_firstBeyondReach_2 fu (nI i) S = some (fst_r (brP w n) m i, S) := by
    intro m
    induction m with
    | zero =>
      intro i fu h1 h2
      obtain ⟨fu, rfl⟩ : ∃ g, fu = g + 1 := ⟨fu - 1, by omega⟩
      rw [zfix_s]; unfold fX5_firstBeyondReach_2
      rw [if_pos (by rw [hr.1.1, hw.1.1]; exact nI_le (by omega) (by omega))]
      rfl
    | succ m ih =>
      intro i fu h1 h2
      obtain ⟨fu, rfl⟩ : ∃ g, fu = g + 1 := ⟨fu - 1, by omega⟩
      rw [zfix_s]; unfold fX5_firstBeyondReach_2
      rw [if_neg (by rw [hr.1.1, hw.1.1]; exact nI_ge (by omega) (by omega)), at_in (by omega) (by omega), zbi_s, hr.1.2.2.2.2.1, hr.1.2.2.2.2.2.1]
      by_cases c : brP w n i
      · rw [if_neg (fun h => (one i (by omega)).mp h c), fst_t c]
      · rw [if_pos ((one i (by omega)).mpr c), fst_f c, nI_1]
        exact ih (i + 1) fu (by omega) (by omega)
  exact key K 0 zF (by omega) (by unfold zF; omega)
theorem ff_iff {w : Nat → Int32} {K n : Nat} (hn : n ≤ 16) : ff_v w K n = -1 ↔ ∀ t, t < n → stP w K n t := by
  unfold ff_v
  rw [fst_neg _ _ (by omega)]
  exact ⟨fun h t ht => Classical.not_not.mp (h t (by omega) (by omega)), fun h t _ ht => fun g => g (h t (by omega))⟩
theorem br_iff {w : Nat → Int32} {K n : Nat} (hK : K ≤ 8) : br_v w K n = -1 ↔ ∀ i, i < K → ¬ brP w n i := by
  unfold br_v
  rw [fst_neg _ _ (by omega)]
  exact ⟨fun h t ht => h t (by omega) (by omega), fun h t _ ht => h t (by omega)⟩
theorem fst_in {p : Nat → Prop} : ∀ (m s : Nat), fst_r p m s = -1 ∨ ∃ j, s ≤ j ∧ j < s + m ∧ fst_r p m s = nI j
  | 0, s => Or.inl rfl
  | m + 1, s => by
    by_cases c : p s
    · exact Or.inr ⟨s, by omega, by omega, fst_t c⟩
    · rw [fst_f c]
      rcases fst_in m (s + 1) (p := p) with h | ⟨j, h1, h2, h3⟩
      · exact Or.inl h
      · exact Or.inr ⟨j, by omega, by omega, h3⟩
theorem why_iff {w : Nat → Int32} {K n : Nat} (hK : K ≤ 8) (hn : n ≤ 16) : why_v w K n = -1 ↔ wkP w K n := by
  unfold why_v wkP
  rw [← ff_iff hn, ← br_iff hK]
  by_cases c1 : ff_v w K n = -1
  · rw [if_pos c1]
    by_cases c2 : br_v w K n = -1
    · rw [if_pos c2]; exact ⟨fun _ => ⟨c1, c2⟩, fun _ => rfl⟩
    · rw [if_neg c2]
      refine ⟨fun h => ?_, fun h => absurd h.2 c2⟩
      rcases fst_in (p := brP w n) K 0 with e | ⟨j, -, h2, h3⟩
      · exact absurd e c2
      · rw [show br_v w K n = nI j from h3, show (100 : Int32) = nI 100 from rfl, nI_add] at h
        exact absurd h (nI_nm1 (by omega))
  · rw [if_neg c1]; exact ⟨fun h => absurd h c1, fun h => absurd h.1 c1⟩
theorem c_isSteady {w : Nat → Int32} {K n : Nat} {S : zT} (hw : wfW w K n) (hs : SO w K n S) : ∃ r S', fX5_isSteady S = some (r, S') ∧ tf r (wkP w K n) := by
  obtain ⟨S1, e1⟩ := c_fall hw hs
  have fr := frX5_firstFall e1
  have e2 := c_reach hw (SO_fr (fun k a b => fr.cell (by simp; omega) (by omega)) hs)
  have i1 := ff_iff (w := w) (K := K) hw.2.1.2.2
  have i2 := br_iff (w := w) (n := n) hw.1.2.2
  unfold fX5_isSteady
  rw [e1, zbi_s]
  by_cases c1 : ff_v w K n = -1
  · rw [if_pos c1, e2, zbi_s]
    by_cases c2 : br_v w K n = -1
    · rw [if_pos c2]; exact ⟨1, S1, rfl, tf_t ⟨i1.mp c1, i2.mp c2⟩⟩
    · rw [if_neg c2]; exact ⟨0, S1, rfl, tf_f (fun h => c2 (i2.mpr h.2))⟩
  · rw [if_neg c1]; exact ⟨0, S1, rfl, tf_f (fun h => c1 (i1.mpr h.1))⟩
theorem m_wn43 {w : Nat → Int32} {K n i : Nat} {S : zT} (hS : S.1 102 = w) (hw : wfW w K n) (hi : i < K) (k : Int32 → zT → Option (Int32 × zT)) : ∀ (m t fu : Nat), t + m = n → m < fu → ((∃ t', t ≤ t' ∧ t' < n ∧ D_w w i t' = true ∧ 2 * (w 3).toInt < (w 2).toInt * (st_d (D_w w i) n t' : Int)) → zfix (fun _ _ _ => none) (fX8_whyNot_43 k) fu (nI i) (nI t) S = some (100 + nI i, S)) ∧ ((¬ ∃ t', t ≤ t' ∧ t' < n ∧ D_w w i t' = true ∧ 2 * (w 3).toInt < (w 2).toInt * (st_d (D_w w i) n t' : Int)) → zfix (fun _ _ _ => none) (fX8_whyNot_43 k) fu (nI i) (nI t) S = k (nI (i + 1)) S) := by
  have hK := hw.1.2.2
  have hn1 := hw.2.1.2.1
  have hn := hw.2.1.2.2
  have hv := hw.2.2.2.1
  have hre := hw.2.2.2.2.1
  intro m
  induction m with
  | zero =>
    intro t fu h1 h2
    obtain ⟨fu, rfl⟩ : ∃ g, fu = g + 1 := ⟨fu - 1, by omega⟩
    refine ⟨fun ⟨t', a, b, _⟩ => by omega, fun _ => ?_⟩
    rw [zfix_s]; unfold fX8_whyNot_43
    rw [if_pos (by rw [hS, hw.2.1.1]; exact nI_le (by omega) (by omega)), nI_1]
  | succ m ih =>
    intro t fu h1 h2
    obtain ⟨fu, rfl⟩ : ∃ g, fu = g + 1 := ⟨fu - 1, by omega⟩
    obtain ⟨ih1, ih2⟩ := ih (t + 1) fu (by omega) (by omega)
    have st := m_stance (S := S) (i := i) (t := t) (n := n) (by rw [hS]; exact hw.2.1.1) hn1 hn (by omega)
    rw [hS] at st
    have stl := st_lt (D_w w i) (n := n) (t := t) hn1
    have mb := mul_bd (show -9 ≤ (w 2).toInt by omega) hv.2 (show -16 ≤ (st_d (D_w w i) n t : Int) by omega) (show (st_d (D_w w i) n t : Int) ≤ 16 by omega)
    have cnd : (w 2 * (nI (st_d (D_w w i) n t + 1) - 1) ≤ 2 * w 3) ↔ ¬ 2 * (w 3).toInt < (w 2).toInt * (st_d (D_w w i) n t : Int) := by
      rw [show nI (st_d (D_w w i) n t + 1) - 1 = nI (st_d (D_w w i) n t) from pk_sub (a := st_d (D_w w i) n t + 1) (b := 1) (by omega), iZ_nI, tI_ii (w 3)]
      conv => lhs; rw [iZ_of (w 2)]
      rw [iZ_mul, iZ_le (by omega) (by omega) (by omega) (by omega)]
      omega
    have skip : ¬ (D_w w i t = true ∧ 2 * (w 3).toInt < (w 2).toInt * (st_d (D_w w i) n t : Int)) → zfix (fun _ _ _ => none) (fX8_whyNot_43 k) (fu + 1) (nI i) (nI t) S = zfix (fun _ _ _ => none) (fX8_whyNot_43 k) fu (nI i) (nI (t + 1)) S := by
      intro hno
      rw [zfix_s]; unfold fX8_whyNot_43 fX8_whyNot_94
      rw [if_neg (by rw [hS, hw.2.1.1]; exact nI_ge (by omega) (by omega)), m_isDown (by omega), zbi_s, hS]
      by_cases c1 : D_w w i t = true
      · rw [if_pos c1, if_neg one_ne, st, zbi_s, hS, if_pos (cnd.mpr (fun h => hno ⟨c1, h⟩)), nI_1]
      · rw [if_neg c1, if_pos rfl, nI_1]
    by_cases c : D_w w i t = true ∧ 2 * (w 3).toInt < (w 2).toInt * (st_d (D_w w i) n t : Int)
    · refine ⟨fun _ => ?_, fun h => absurd ⟨t, by omega, by omega, c⟩ h⟩
      rw [zfix_s]; unfold fX8_whyNot_43
      rw [if_neg (by rw [hS, hw.2.1.1]; exact nI_ge (by omega) (by omega)), m_isDown (by omega), zbi_s, hS, if_pos c.1, if_neg one_ne, st, zbi_s, hS, if_neg (fun h => cnd.mp h c.2)]
    · rw [skip c]
      refine ⟨fun ⟨t', a, b, g⟩ => ih1 ⟨t', ?_, b, g⟩, fun h => ih2 (fun ⟨t', a, b, g⟩ => h ⟨t', by omega, b, g⟩)⟩
      by_cases e : t' = t
      · subst e; exact absurd g c
      · omega
theorem m_why {w : Nat → Int32} {K n : Nat} {S : zT} (hS : S.1 102 = w) (hw : wfW w K n) : ∃ S', fX8_whyNot S = some (why_v w K n, S') := by
  have hK := hw.1.2.2
  have hn := hw.2.1.2.2
  have k31 : ∀ (m i fu : Nat) (S : zT), S.1 102 = w → i + m = K → m < fu → zfix (fun _ _ => none) fX8_whyNot_31 fu (nI i) S = some (if fst_r (brP w n) m i = -1 then -1 else 100 + fst_r (brP w n) m i, S) := by
    intro m
    induction m with
    | zero =>
      intro i fu S hS h1 h2
      obtain ⟨fu, rfl⟩ : ∃ g, fu = g + 1 := ⟨fu - 1, by omega⟩
      rw [zfix_s]; unfold fX8_whyNot_31
      rw [if_pos (by rw [hS, hw.1.1]; exact nI_le (by omega) (by omega)), show fst_r (brP w n) 0 i = -1 from rfl, if_pos rfl]
    | succ m ih =>
      intro i fu S hS h1 h2
      obtain ⟨fu, rfl⟩ : ∃ g, fu = g + 1 := ⟨fu - 1, by omega⟩
      obtain ⟨a1, a2⟩ := m_wn43 hS hw (show i < K by omega) (zfix (fun _ _ => none) fX8_whyNot_31 fu) n 0 zF (by omega) (by unfold zF; omega)
      rw [zfix_s]; unfold fX8_whyNot_31
      rw [if_neg (by rw [hS, hw.1.1]; exact nI_ge (by omega) (by omega))]
      by_cases c : brP w n i
      · obtain ⟨t, t1, t2⟩ := c
        rw [fst_t ⟨t, t1, t2⟩, if_neg (nI_nm1 (by omega))]
        exact a1 ⟨t, by omega, t1, t2⟩
      · rw [fst_f c]
        exact (a2 (fun ⟨t, _, t1, t2⟩ => c ⟨t, t1, t2⟩)).trans (ih (i + 1) fu S hS (by omega) (by omega))
  have k2 : ∀ (m t fu : Nat) (S : zT), S.1 102 = w → t + m = n → m < fu → ∃ S', zfix (fun _ _ => none) fX8_whyNot_2 fu (nI t) S = some (if fst_r (fun t => ¬ stP w K n t) m t = -1 then (if br_v w K n = -1 then -1 else 100 + br_v w K n) else fst_r (fun t => ¬ stP w K n t) m t, S') := by
    intro m
    induction m with
    | zero =>
      intro t fu S hS h1 h2
      obtain ⟨fu, rfl⟩ : ∃ g, fu = g + 1 := ⟨fu - 1, by omega⟩
      refine ⟨S, ?_⟩
      rw [zfix_s]; unfold fX8_whyNot_2
      rw [if_pos (by rw [hS, hw.2.1.1]; exact nI_le (by omega) (by omega)), show fst_r (fun t => ¬ stP w K n t) 0 t = -1 from rfl, if_pos rfl]
      exact k31 K 0 zF S hS (by omega) (by unfold zF; omega)
    | succ m ih =>
      intro t fu S hS h1 h2
      obtain ⟨fu, rfl⟩ : ∃ g, fu = g + 1 := ⟨fu - 1, by omega⟩
      obtain ⟨r, S1, e1, t1⟩ := m_standsAt hS hw (show t < n by omega)
      have fr := frX8_standsAt e1
      rw [zfix_s]; unfold fX8_whyNot_2
      rw [if_neg (by rw [hS, hw.2.1.1]; exact nI_ge (by omega) (by omega)), e1, zbi_s]
      rcases t1 with ⟨rfl, t1⟩ | ⟨rfl, t1⟩
      · rw [if_neg one_ne, fst_f (p := fun t => ¬ stP w K n t) (fun h => h t1), nI_1]
        exact ih (t + 1) fu S1 ((fr.cell (by simp) (by omega)).trans hS) (by omega) (by omega)
      · rw [if_pos rfl, fst_t (p := fun t => ¬ stP w K n t) t1, if_neg (nI_nm1 (by omega))]
        exact ⟨S1, rfl⟩
  exact k2 n 0 zF S hS (by omega) (by unfold zF; omega)
theorem K_walks : zK_walks zInv := by
  refine zO_query (fun w K n => bP (wkP w K n)) (fun S w K n hw hr => ?_) (fun S => rfl) (fun S K n hw hb => ?_)
  · obtain ⟨S1, e1, s1⟩ := c_tryOut hw hr
    have fr1 := frX7_tryOut e1
    obtain ⟨r, S2, e2, t2⟩ := c_isSteady hw (Or.inl s1)
    have fr2 := frX5_isSteady e2
    refine ⟨S2, ?_, fun k j hk => ?_⟩
    · unfold fX7_walks
      rw [e1, zbv_s, e2, zbi_s, if_pos (tf_01 t2), tf_bP t2]
    · rw [show S2.1 k j = S1.1 k j from cls_of fr2 (fun k hk => by simp; omega) k j hk]
      exact cls_of fr1 (fun k hk => by simp; omega) k j hk
  · obtain ⟨S1, e1⟩ := m_why rfl hw
    have fr := frX8_whyNot e1
    have i := why_iff (w := S.1 102) hw.1.2.2 hw.2.1.2.2
    refine ⟨S1, ?_, mod_of fr (by simp) (by simp)⟩
    rw [e1, zbi_s]
    by_cases c : wkP (S.1 102) K n
    · rw [if_pos (i.mpr c), bP_t c]
    · rw [if_neg (fun h => c (i.mp h)), bP_f c]
theorem K_why : zK_why zInv := by
  refine zO_query why_v (fun S w K n hw hr => ?_) (fun S => rfl) (fun S K n hw hb => ?_)
  · obtain ⟨S1, e1, s1⟩ := c_tryOut hw hr
    have fr1 := frX7_tryOut e1
    obtain ⟨S2, e2⟩ := c_fall hw (Or.inl s1)
    have fr2 := frX5_firstFall e2
    have e3 := c_reach hw (SO_fr (fun k a b => fr2.cell (by simp; omega) (by omega)) (Or.inl s1))
    refine ⟨S2, ?_, fun k j hk => ?_⟩
    · unfold fX7_why why_v
      rw [e1, zbv_s, e2, zbi_s]
      by_cases c1 : ff_v w K n = -1
      · rw [if_pos c1, if_pos c1, e3, zbi_s]
        by_cases c2 : br_v w K n = -1
        · rw [if_pos c2, if_pos c2]
        · rw [if_neg c2, if_neg c2]
      · rw [if_neg c1, if_neg c1]
    · rw [show S2.1 k j = S1.1 k j from cls_of fr2 (fun k hk => by simp; omega) k j hk]
      exact cls_of fr1 (fun k hk => by simp; omega) k j hk
  · obtain ⟨S1, e1⟩ := m_why rfl hw
    have fr := frX8_whyNot e1
    exact ⟨S1, by rw [e1, zbi_s], mod_of fr (by simp) (by simp)⟩
