theorem pow_le256 {K : Nat} (hK : K ≤ 8) : 2 ^ K ≤ 256 := by
  have := Nat.pow_le_pow_right (n := 2) (by omega) hK
  simpa using this
theorem wf_set {w : Nat → Int32} {K n t s : Nat} (hw : wfW w K n) (ht : t < n) (hs : s < 2 ^ K) : wfW (upd w (23 + t) (nI s)) K n := by
  obtain ⟨a, b, c1, c2, c3, c4, c5, d, f1, f2⟩ := hw
  have hK := a.2.2
  refine ⟨by rw [pk_un (by omega)]; exact a, by rw [pk_un (by omega)]; exact b, by rw [pk_un (by omega)]; exact c1, by rw [pk_un (by omega)]; exact c2, by rw [pk_un (by omega)]; exact c3, by rw [pk_un (by omega)]; exact c4, by rw [pk_un (by omega)]; exact c5, fun i hi => ?_, fun t' ht' => ?_, fun t' ht' h => ?_⟩
  · rw [pk_un (by omega), pk_un (by omega)]; exact d i hi
  · by_cases e : t' = t
    · subst e; exact ⟨s, hs, pk_us⟩
    · rw [pk_un (by omega)]; exact f1 t' ht'
  · rw [pk_un (by omega)]; exact f2 t' ht' h
theorem c_hasSet {w : Nat → Int32} {K n : Nat} {S : zT} {b : Nat} (hw : wfW w K n) (hr : rC w K n S b) (a : Int32) : fX6_hasSet b a S = some (if a < 0 then 0 else if nI (2 ^ K) ≤ a then 0 else 1, S) := by
  have hp := pow_le256 hw.1.2.2
  have hpos : 0 < 2 ^ K := Nat.two_pow_pos K
  unfold fX6_hasSet fX6_fullSet
  rw [hr.1.1, hw.1.1, ini6 K (by have := hw.1.2.2; omega), zbi_s]
  by_cases q1 : a < 0
  · rw [if_pos q1, if_pos q1]
  rw [if_neg q1, if_neg q1]
  have e : nI (2 ^ K - 1) < a ↔ nI (2 ^ K) ≤ a := by
    rw [Int32.lt_iff_toInt_lt, Int32.le_iff_toInt_le, nI_toInt (by omega), nI_toInt (by omega)]; omega
  by_cases q2 : nI (2 ^ K) ≤ a
  · rw [if_pos (e.mpr q2), if_pos q2]
  · rw [if_neg (fun h => q2 (e.mp h)), if_neg q2]
theorem m_isSet {K n : Nat} {S : zT} (hw : wfW (S.1 102) K n) (a : Int32) : fX8_isSet a S = some (if a < 0 then 0 else if nI (2 ^ K) ≤ a then 0 else 1, S) := by
  unfold fX8_isSet
  rw [hw.1.1, shl1 K (by have := hw.1.2.2; omega)]
  split
  · rfl
  · split <;> rfl
theorem K_tick : zK_tick zInv := by
  intro x y S hI
  obtain ⟨hb, ⟨K, n, hw, hr⟩, hs, hc, hm⟩ := id hI
  have hK := hw.1.2.2
  have hn := hw.2.1.2.2
  have hp := pow_le256 hK
  have no : ((if x < 0 then (0 : Int32) else if Gf S 6 ≤ x then 0 else 1) = 0 ∨ (if y < 0 then (0 : Int32) else if nI (2 ^ K) ≤ y then 0 else 1) = 0) → ∃ r S1 S2, fX7_tick x y S = some (r, S1) ∧ fX8_tick x y S1 = some (r, S2) ∧ zInv S2 := by
    intro h
    obtain ⟨S2, p⟩ := m_pre hb
    have hw2 : wfW (S2.1 102) K n := by rw [p.2.1]; exact hw
    refine ⟨0, S, S2, ?_, ?_, zInv_no hI p⟩
    · unfold fX7_tick
      rw [c_hasTick hr, zbi_s]
      by_cases q : (if x < 0 then (0 : Int32) else if Gf S 6 ≤ x then 0 else 1) = 0
      · rw [if_pos q]
      · rw [if_neg q, c_hasSet hw hr, zbi_s, if_pos (h.resolve_left q)]
    · unfold fX8_tick
      rw [zlet_s, p.1, zbv_s, m_isTick, zbi_s, p.2.1]
      by_cases q : (if x < 0 then (0 : Int32) else if Gf S 6 ≤ x then 0 else 1) = 0
      · rw [if_pos q]
      · rw [if_neg q, m_isSet hw2, zbi_s, if_pos (h.resolve_left q)]
  by_cases q1 : x < 0
  · exact no (Or.inl (if_pos q1))
  by_cases q2 : Gf S 6 ≤ x
  · exact no (Or.inl (by rw [if_neg q1, if_pos q2]))
  by_cases q3 : y < 0
  · exact no (Or.inr (if_pos q3))
  by_cases q4 : nI (2 ^ K) ≤ y
  · exact no (Or.inr (by rw [if_neg q3, if_pos q4]))
  clear no
  obtain ⟨t, t1, rfl⟩ := in_of (K := n) (by omega) q1 (by rw [← hw.2.1.1]; exact q2)
  obtain ⟨s, s1, rfl⟩ := in_of (K := 2 ^ K) (by omega) q3 q4
  obtain ⟨Sa, ea, ha, fa⟩ := mutC hc hw hr (S0 := S) (fun _ _ _ => rfl)
  obtain ⟨S1, hS1⟩ : ∃ S1, S1 = zsi Sa 7 t (nI s) := ⟨_, rfl⟩
  have g1 : ∀ k j, k ≠ 7 → S1.1 k j = Sa.1 k j := fun k j h => by rw [hS1, zsi_n _ _ h]
  have h101 : ∀ k j, 101 ≤ k → S1.1 k j = S.1 k j := fun k j h => by rw [g1 k j (by omega), fa k j (by omega)]
  obtain ⟨S2, p⟩ := m_pre (S := S1) (by rw [h101 101 4 (by omega)]; exact hb)
  obtain ⟨Sb, eb, hmb⟩ := mutM hm h101 p rfl rfl rfl
  have frb := frX8_keep eb
  have hG1 : Gf S1 = Gf S := Gf_eq (h101 101 4 (by omega)) (funext fun j => h101 102 j (by omega))
  have h102 : Sb.1 102 = Gf S := by rw [frb.cell (by simp) (by omega), p.2.1, hG1]
  have hw2 : wfW (S2.1 102) K n := by rw [p.2.1, hG1]; exact hw
  have e102 : (zsi Sb 102 (23 + t) (nI s)).1 102 = upd (Gf S) (23 + t) (nI s) := by rw [zsi_k, h102]
  refine ⟨1, S1, zsi Sb 102 (23 + t) (nI s), ?_, ?_, mut_end (S := S) ha (fun k j h => g1 k j (by omega)) p hmb frb (zFr_si (by simp)) (K := K) (n := n) ?_ ?_⟩
  · unfold fX7_tick
    rw [c_hasTick hr, zbi_s, if_neg q1, if_neg q2, if_neg one_ne, c_hasSet hw hr, zbi_s, if_neg q3, if_neg q4, if_neg one_ne, ea, zbv_s, put_in (by omega) (by omega), zbv_s, hS1]
  · unfold fX8_tick
    rw [zlet_s, p.1, zbv_s, m_isTick, zbi_s, p.2.1, hG1, if_neg q1, if_neg q2, if_neg one_ne, m_isSet hw2, zbi_s, if_neg q3, if_neg q4, if_neg one_ne, eb, zbv_s, show (23 : Int32) + nI t = nI (23 + t) from nI_add 23 t, if_pos (gin (by omega) (by omega)), nI_clamp (by omega), zlet_s]
  · rw [e102]; exact wf_set hw t1 s1
  · rw [e102]
    obtain ⟨⟨a0, a1, a2, a3, a4, a5, a6⟩, b1, b2, b3⟩ := hr
    have s1 : ∀ j, S1.1 1 j = S.1 1 j := fun j => by rw [g1 1 j (by omega), fa 1 j (by omega)]
    refine ⟨⟨by rw [s1 0, pk_un (by omega)]; exact a0, by rw [s1 1, pk_un (by omega)]; exact a1, by rw [s1 2, pk_un (by omega)]; exact a2, by rw [s1 3, pk_un (by omega)]; exact a3, by rw [s1 4, pk_un (by omega)]; exact a4, by rw [s1 5, pk_un (by omega)]; exact a5, by rw [s1 6, pk_un (by omega)]; exact a6⟩, fun i hi => ?_, fun i hi => ?_, fun t' ht' => ?_⟩
    · rw [g1 _ _ (by omega), fa _ _ (by omega), pk_un (by omega)]; exact b1 i hi
    · rw [g1 _ _ (by omega), fa _ _ (by omega), pk_un (by omega)]; exact b2 i hi
    · by_cases e : t' = t
      · subst e; rw [hS1, zsi_k, pk_us, pk_us]
      · rw [hS1, zsi_k, pk_un e, fa 7 t' (by omega), pk_un (by omega)]; exact b3 t' ht'
theorem wf_leg {w : Nat → Int32} {K n i : Nat} {x y : Int32} (hw : wfW w K n) (hi : i < K) (hx : -20 ≤ x.toInt ∧ x.toInt ≤ 20) (hy : -20 ≤ y.toInt ∧ y.toInt ≤ 20) : wfW (upd (upd w (7 + i) x) (15 + i) y) K n := by
  obtain ⟨a, b, c1, c2, c3, c4, c5, d, f1, f2⟩ := hw
  have hK := a.2.2
  refine ⟨by rw [pk_un (by omega), pk_un (by omega)]; exact a, by rw [pk_un (by omega), pk_un (by omega)]; exact b, by rw [pk_un (by omega), pk_un (by omega)]; exact c1, by rw [pk_un (by omega), pk_un (by omega)]; exact c2, by rw [pk_un (by omega), pk_un (by omega)]; exact c3, by rw [pk_un (by omega), pk_un (by omega)]; exact c4, by rw [pk_un (by omega), pk_un (by omega)]; exact c5, fun j hj => ?_, fun t ht => ?_, fun t ht h => ?_⟩
  · by_cases e : j = i
    · subst e
      rw [pk_un (show 7 + j ≠ 15 + j by omega), pk_us, pk_us]; exact ⟨hx, hy⟩
    · rw [pk_un (show 7 + j ≠ 15 + i by omega), pk_un (show 7 + j ≠ 7 + i by omega), pk_un (show 15 + j ≠ 15 + i by omega), pk_un (show 15 + j ≠ 7 + i by omega)]; exact d j hj
  · rw [pk_un (by omega), pk_un (by omega)]; exact f1 t ht
  · rw [pk_un (by omega), pk_un (by omega)]; exact f2 t ht h
theorem K_leg : zK_leg zInv := by
  intro a x y S hI
  obtain ⟨hb, ⟨K, n, hw, hr⟩, hs, hc, hm⟩ := id hI
  have hK := hw.1.2.2
  have no : ((if a < 0 then (0 : Int32) else if Gf S 0 ≤ a then 0 else 1) = 0 ∨ ¬ pl x y = true ∨ (¬ lg_w (Gf S) K x y = -1 ∧ ¬ lg_w (Gf S) K x y = a)) → ∃ r S1 S2, fX7_leg a x y S = some (r, S1) ∧ fX8_leg a x y S1 = some (r, S2) ∧ zInv S2 := by
    intro h
    obtain ⟨S2, p⟩ := m_pre hb
    have hw2 : wfW (S2.1 102) K n := by rw [p.2.1]; exact hw
    refine ⟨0, S, S2, ?_, ?_, zInv_no hI p⟩
    · unfold fX7_leg
      rw [c_hasLeg hr, zbi_s]
      by_cases q : (if a < 0 then (0 : Int32) else if Gf S 0 ≤ a then 0 else 1) = 0
      · rw [if_pos q]
      · rw [if_neg q, c_isPlace, zbi_s]
        by_cases q2 : pl x y = true
        · obtain ⟨r1, r2⟩ := (h.resolve_left q).resolve_left (fun z => z q2)
          rw [if_pos q2, if_neg one_ne, c_legAt hw hr, zbi_s, if_neg r1, if_neg r2]
        · rw [if_neg q2, if_pos rfl]
    · unfold fX8_leg
      rw [zlet_s, p.1, zbv_s, m_isLeg, zbi_s, p.2.1]
      by_cases q : (if a < 0 then (0 : Int32) else if Gf S 0 ≤ a then 0 else 1) = 0
      · rw [if_pos q]
      · rw [if_neg q, m_isPlace, zbi_s]
        by_cases q2 : pl x y = true
        · obtain ⟨r1, r2⟩ := (h.resolve_left q).resolve_left (fun z => z q2)
          rw [if_pos q2, if_neg one_ne, m_legAt hw2, zbi_s, p.2.1, if_neg r1, if_neg r2]
        · rw [if_neg q2, if_pos rfl]
  by_cases q1 : a < 0
  · exact no (Or.inl (if_pos q1))
  by_cases q2 : Gf S 0 ≤ a
  · exact no (Or.inl (by rw [if_neg q1, if_pos q2]))
  by_cases q3 : ¬ pl x y = true
  · exact no (Or.inr (Or.inl q3))
  replace q3 : pl x y = true := Decidable.not_not.mp q3
  by_cases q4 : ¬ (lg_w (Gf S) K x y = -1 ∨ lg_w (Gf S) K x y = a)
  · exact no (Or.inr (Or.inr ⟨fun h => q4 (Or.inl h), fun h => q4 (Or.inr h)⟩))
  replace q4 : lg_w (Gf S) K x y = -1 ∨ lg_w (Gf S) K x y = a := Decidable.not_not.mp q4
  clear no
  obtain ⟨i, i1, rfl⟩ := in_of (K := K) (by omega) q1 (by rw [← hw.1.1]; exact q2)
  obtain ⟨Sa, ea, ha, fa⟩ := mutC hc hw hr (S0 := S) (fun _ _ _ => rfl)
  obtain ⟨S1, hS1⟩ : ∃ S1, S1 = zsi (zsi Sa 3 i x) 5 i y := ⟨_, rfl⟩
  have g1 : ∀ k j, k ≠ 3 → k ≠ 5 → S1.1 k j = Sa.1 k j := fun k j h h2 => by rw [hS1, zsi_n _ _ h2, zsi_n _ _ h]
  have h101 : ∀ k j, 101 ≤ k → S1.1 k j = S.1 k j := fun k j h => by rw [g1 k j (by omega) (by omega), fa k j (by omega)]
  obtain ⟨S2, p⟩ := m_pre (S := S1) (by rw [h101 101 4 (by omega)]; exact hb)
  obtain ⟨Sb, eb, hmb⟩ := mutM hm h101 p rfl rfl rfl
  have frb := frX8_keep eb
  have hG1 : Gf S1 = Gf S := Gf_eq (h101 101 4 (by omega)) (funext fun j => h101 102 j (by omega))
  have h102 : Sb.1 102 = Gf S := by rw [frb.cell (by simp) (by omega), p.2.1, hG1]
  have hw2 : wfW (S2.1 102) K n := by rw [p.2.1, hG1]; exact hw
  have e102 : (zsi (zsi Sb 102 (7 + i) x) 102 (15 + i) y).1 102 = upd (upd (Gf S) (7 + i) x) (15 + i) y := by rw [zsi_k, zsi_k, h102]
  have c46 : fX7_leg_46 (nI i) x y S = some (1, S1) := by
    unfold fX7_leg_46
    rw [ea, zbv_s, put_in (by omega) (by omega), zbv_s, put_in (by omega) (by omega), zbv_s, hS1]
  have m50 : fX8_leg_50 (nI i) x y S2 = some (1, zsi (zsi Sb 102 (7 + i) x) 102 (15 + i) y) := by
    unfold fX8_leg_50
    rw [eb, zbv_s, show (7 : Int32) + nI i = nI (7 + i) from nI_add 7 i, show (15 : Int32) + nI i = nI (15 + i) from nI_add 15 i, if_pos (gin (by omega) (by omega)), nI_clamp (by omega), zlet_s, if_pos (gin (by omega) (by omega)), nI_clamp (by omega), zlet_s]
  refine ⟨1, S1, zsi (zsi Sb 102 (7 + i) x) 102 (15 + i) y, ?_, ?_, mut_end (S := S) ha (fun k j h => g1 k j (by omega) (by omega)) p hmb frb (zFr_trans (zFr_si (by simp)) (zFr_si (by simp))) (K := K) (n := n) ?_ ?_⟩
  · unfold fX7_leg
    rw [c_hasLeg hr, zbi_s, if_neg q1, if_neg q2, if_neg one_ne, c_isPlace, zbi_s, if_pos q3, if_neg one_ne, c_legAt hw hr, zbi_s]
    by_cases r1 : lg_w (Gf S) K x y = -1
    · rw [if_pos r1]; exact c46
    · rw [if_neg r1, if_pos (q4.resolve_left r1)]; exact c46
  · unfold fX8_leg
    rw [zlet_s, p.1, zbv_s, m_isLeg, zbi_s, p.2.1, hG1, if_neg q1, if_neg q2, if_neg one_ne, m_isPlace, zbi_s, if_pos q3, if_neg one_ne, m_legAt hw2, zbi_s, p.2.1, hG1]
    by_cases r1 : lg_w (Gf S) K x y = -1
    · rw [if_pos r1]; exact m50
    · rw [if_neg r1, if_pos (q4.resolve_left r1)]; exact m50
  · rw [e102]; exact wf_leg hw i1 (pl_bd q3).1 (pl_bd q3).2
  · rw [e102]
    obtain ⟨⟨a0, a1, a2, a3, a4, a5, a6⟩, b1, b2, b3⟩ := hr
    have s1 : ∀ j, S1.1 1 j = S.1 1 j := fun j => by rw [g1 1 j (by omega) (by omega), fa 1 j (by omega)]
    refine ⟨⟨by rw [s1 0, pk_un (by omega), pk_un (by omega)]; exact a0, by rw [s1 1, pk_un (by omega), pk_un (by omega)]; exact a1, by rw [s1 2, pk_un (by omega), pk_un (by omega)]; exact a2, by rw [s1 3, pk_un (by omega), pk_un (by omega)]; exact a3, by rw [s1 4, pk_un (by omega), pk_un (by omega)]; exact a4, by rw [s1 5, pk_un (by omega), pk_un (by omega)]; exact a5, by rw [s1 6, pk_un (by omega), pk_un (by omega)]; exact a6⟩, fun j hj => ?_, fun j hj => ?_, fun t ht => ?_⟩
    · show S1.1 3 j = _
      by_cases e : j = i
      · subst e; rw [hS1, zsi_n _ _ (by omega), zsi_k, pk_us, pk_un (show 7 + j ≠ 15 + j by omega), pk_us]
      · rw [hS1, zsi_n _ _ (by omega), zsi_k, pk_un e, fa 3 j (by omega), pk_un (show 7 + j ≠ 15 + i by omega), pk_un (show 7 + j ≠ 7 + i by omega)]; exact b1 j hj
    · show S1.1 5 j = _
      by_cases e : j = i
      · subst e; rw [hS1, zsi_k, pk_us, pk_us]
      · rw [hS1, zsi_k, pk_un e, zsi_n _ _ (by omega), fa 5 j (by omega), pk_un (show 15 + j ≠ 15 + i by omega), pk_un (show 15 + j ≠ 7 + i by omega)]; exact b2 j hj
    · rw [g1 _ _ (by omega) (by omega), fa _ _ (by omega), pk_un (by omega), pk_un (by omega)]; exact b3 t ht
/-! undo -/
theorem c_back {S : zT} {hs : List (Nat → Int32)} (hc : HC hs S) : (hs = [] ∧ fX7_undo S = some (0, S)) ∨ ∃ w t K n S', hs = w :: t ∧ fX7_undo S = some (1, S') ∧ HC t S' ∧ wfW w K n ∧ rC w K n S' 1 ∧ ∀ k j, 66 ≤ k → S'.1 k j = S.1 k j := by
  obtain ⟨nx, h1, h2, h3, h4, h5⟩ := hc
  have hlat : ∃ lx : Nat, lx < 8 ∧ lx = (nx + 7) % 8 ∧ fX0_takeBack 1 S = fX0_takeBack_18 1 (nI lx) S := by
    unfold fX0_takeBack
    rw [h2]
    by_cases q : nx = 0
    · subst q; exact ⟨7, by omega, by omega, by rw [if_pos (show nI 0 ≤ 0 by decide)]; rfl⟩
    · refine ⟨nx - 1, by omega, by omega, ?_⟩
      rw [if_neg (nI_nle (by omega) (by omega)), show nI nx - 1 = nI (nx - 1) from pk_sub (b := 1) (by omega)]
  obtain ⟨lx, l1, l2, l3⟩ := hlat
  match hs, h3, h4, h5 with
  | [], h3, h4, h5 =>
    left
    refine ⟨rfl, ?_⟩
    unfold fX7_undo
    rw [l3]
    unfold fX0_takeBack_18
    rw [c_stateAt l1, zbw_w l1, h3, if_pos (show nI ([] : List (Nat → Int32)).length = 0 from rfl), zbi_s, if_pos (Or.inl rfl)]
  | w :: t, h3, h4, h5 =>
    right
    obtain ⟨K, n, i1, i2⟩ := h5 0 w rfl
    rw [show (nx + 7 - 0) % 8 = lx by omega] at i2
    have hl : (w :: t).length = t.length + 1 := rfl
    rw [hl] at h3 h4
    obtain ⟨S5, e5, c0, c1, c2, c3⟩ := wkcopy (b := 1) (b1 := 10 + 7 * lx) (by omega) S
    have r5 := frX6_copyFrom e5
    have k5 : ∀ k j, 8 ≤ k → S5.1 k j = S.1 k j := fun k j h => (r5 k j (by simp; omega) (by simp)).1
    obtain ⟨S', hS'⟩ : ∃ S', S' = zsi (zsi S5 8 1 (nI lx)) 8 2 (nI t.length) := ⟨_, rfl⟩
    have k6 : ∀ k, k ≠ 8 → S'.1 k = S5.1 k := fun k h => by rw [hS', zsi_n _ _ h, zsi_n _ _ h]
    refine ⟨w, t, K, n, S', rfl, ?_, ⟨lx, l1, ?_, ?_, by omega, fun j v hj => ?_⟩, i1, ?_, fun k j hk => ?_⟩
    · unfold fX7_undo
      rw [l3]
      unfold fX0_takeBack_18
      rw [c_stateAt l1, zbw_w l1, h3, if_neg (show ¬ nI (t.length + 1) = 0 from nI_ne0 (by omega) (by omega)), e5, zbv_s, zlet_s, zlet_s]
      have e8 : (zsi S5 8 1 (nI lx)).1 8 2 = nI (t.length + 1) := by rw [zsi_k, pk_un (by omega), k5 8 2 (by omega), h3]
      rw [e8, nI_pred, zbi_s, if_pos (Or.inr rfl), hS']
    · rw [hS', zsi_k, pk_un (by omega), zsi_k, pk_us]
    · rw [hS', zsi_k, pk_us]
    · obtain ⟨K', n', m1, m2⟩ := h5 (j + 1) v (by simpa using hj)
      have hlt : j < t.length := (List.getElem?_eq_some_iff.mp hj).1
      refine ⟨K', n', m1, ?_⟩
      rw [show (lx + 7 - j) % 8 = (nx + 7 - (j + 1)) % 8 by omega]
      refine rC_cells (fun k g1 g2 => ?_) m2
      rw [k6 k (by omega)]
      exact funext fun i => k5 k i (by omega)
    · refine rC_state (S := S) (b := 10 + 7 * lx) i1.1.2.2 i1.2.1.2.2 (fun j hj => ?_) (fun j hj => ?_) (fun j hj => ?_) (fun j hj => ?_) i2
      · rw [k6 _ (by omega)]; exact c0 j hj
      · rw [k6 _ (by omega)]; exact c1 j hj
      · rw [k6 _ (by omega)]; exact c2 j hj
      · rw [k6 _ (by omega)]; exact c3 j hj
    · rw [k6 k (by omega)]; exact k5 k j (by omega)
theorem m_undo30 {c0 : Nat} (hc : c0 ≤ 7) : ∀ (d i f : Nat) (S : zT), i + d = 48 → d < f → S.1 101 3 = nI c0 → ∃ S', zfix (fun _ _ => none) fX8_undo_30 f (nI i) S = some (1, S') ∧ ∀ m, S'.1 102 m = if i ≤ m ∧ m < 48 then S.1 103 (48 * c0 + m) else S.1 102 m := by
  intro d
  induction d with
  | zero =>
    intro i f S h1 h2 h3
    obtain ⟨f, rfl⟩ : ∃ g, f = g + 1 := ⟨f - 1, by omega⟩
    refine ⟨S, ?_, fun m => ?_⟩
    · rw [zfix_s]; unfold fX8_undo_30
      rw [if_pos (show (48 : Int32) ≤ nI i from nI_le (a := 48) (by omega) (by omega))]
    · rw [if_neg (by omega)]
  | succ d ih =>
    intro i f S h1 h2 h3
    obtain ⟨f, rfl⟩ : ∃ g, f = g + 1 := ⟨f - 1, by omega⟩
    have e1 : (nI c0 * 48 + nI i) = nI (c0 * 48 + i) := by rw [show (48 : Int32) = nI 48 from rfl, pk_mul, nI_add]
    obtain ⟨S', a1, a3⟩ := ih (i + 1) f (zsi S 102 i (S.1 103 (c0 * 48 + i))) (by omega) (by omega) (by rw [zsi_n _ _ (by omega), h3])
    refine ⟨S', ?_, fun m => ?_⟩
    · rw [zfix_s]; unfold fX8_undo_30
      rw [if_neg (show ¬ (48 : Int32) ≤ nI i from nI_ge (b := 48) (by omega) (by omega)), h3, e1, if_pos (gin (by omega) (by omega)), if_pos (gin (by omega) (by omega)), nI_clamp (by omega), nI_clamp (by omega), zlet_s, nI_1]
      exact a1
    · rw [a3 m, zsi_n _ _ (by omega), zsi_k]
      unfold upd
      by_cases q1 : i + 1 ≤ m ∧ m < 48
      · rw [if_pos q1, if_pos (show i ≤ m ∧ m < 48 by omega)]
      · rw [if_neg q1]
        by_cases q2 : m = i
        · subst q2; rw [if_pos rfl, if_pos (show m ≤ m ∧ m < 48 by omega), show c0 * 48 + m = 48 * c0 + m by omega]
        · rw [if_neg q2, if_neg (show ¬ (i ≤ m ∧ m < 48) by omega)]
theorem zFr_undo30 : ∀ (f : Nat) (x : Int32) (S : zT) (o : Int32 × zT), zfix (fun _ _ => none) fX8_undo_30 f x S = some o → zFr [102] [] S o.2 := by
  intro f
  induction f with
  | zero => intro x S o h; exact zno (show (none : Option (Int32 × zT)) = some o from h)
  | succ f ih =>
    intro x S o h
    replace h : fX8_undo_30 (zfix (fun _ _ => none) fX8_undo_30 f) x S = some o := h
    unfold fX8_undo_30 at h
    rcases zif_or h with h | h
    · cases h; exact zFr_rf _ _ _
    · replace h := (zif_g (zif_g h).2).2
      exact zFr_trans (zFr_si (by simp)) (ih _ _ _ h)
theorem K_undo : zK_undo zInv := by
  intro S hI
  obtain ⟨hb, ⟨K, n, hw, hr⟩, hs, hc, hm⟩ := id hI
  rcases c_back hc with ⟨rfl, e1⟩ | ⟨w, t, K', n', S1, rfl, e1, hc1, hw1, hr1, h66⟩
  · obtain ⟨S2, p⟩ := m_pre hb
    refine ⟨0, S, S2, e1, ?_, zInv_no hI p⟩
    unfold fX8_undo
    rw [zlet_s, p.1, zbv_s, p.2.2.2.1, hm.1, if_pos (show nI ([] : List (Nat → Int32)).length = 0 from rfl)]
  · have hG1 : Gf S1 = Gf S := Gf_eq (h66 101 4 (by omega)) (funext fun j => h66 102 j (by omega))
    obtain ⟨S2, p⟩ := m_pre (S := S1) (by rw [h66 101 4 (by omega)]; exact hb)
    obtain ⟨m1, m2, m3⟩ := HM_pre hm (fun k j h => h66 k j (by omega)) p
    have hl : (w :: t).length = t.length + 1 := rfl
    rw [hl] at m1 m2
    obtain ⟨S3, e3, f3⟩ := m_undo30 (c0 := t.length) (by omega) 48 0 zF (zsi S2 101 3 (nI t.length)) (by omega) (by unfold zF; omega) (by rw [zsi_k, pk_us])
    have e4 : fX8_undo S1 = some (1, S3) := by
      unfold fX8_undo
      rw [zlet_s, p.1, zbv_s, m1, if_neg (show ¬ nI (t.length + 1) = 0 from nI_ne0 (by omega) (by omega)), zlet_s, nI_pred]
      exact e3
    have fr : S3.1 101 4 = S2.1 101 4 ∧ S3.1 101 3 = nI t.length ∧ (∀ k, k ≠ 101 → k ≠ 102 → S3.1 k = S2.1 k) := by
      have z := zFr_undo30 _ _ _ _ e3
      refine ⟨?_, ?_, fun k k1 k2 => ?_⟩
      · rw [z.slot (by simp) (by simp), zsi_k, pk_un (by omega)]
      · rw [z.slot (by simp) (by simp), zsi_k, pk_us]
      · rw [z.cell (by simp; omega) k1, zsi_n _ _ k1]
    have h102 : ∀ j, j < 48 → w j = S3.1 102 j := by
      intro j hj
      rw [f3 j, if_pos (by omega), zsi_n _ _ (by omega)]
      have := m3 0 w rfl j hj
      rw [hl, show t.length + 1 - 1 - 0 = t.length by omega] at this
      exact this.symm
    refine ⟨1, S1, S3, e1, e4, zInv_mut hc1 p (hs := t) ⟨fr.2.1, by omega, fun j v hj i hi => ?_⟩ (by rw [fr.1]; exact p.2.2.1) (fun k hk => fr.2.2 k (by omega) (by omega)) (wfW_congr h102 hw1) (rC_congr hw1.1.2.2 hw1.2.1.2.2 h102 hr1)⟩
    have hlt : j < t.length := (List.getElem?_eq_some_iff.mp hj).1
    rw [fr.2.2 103 (by omega) (by omega)]
    have := m3 (j + 1) v (by simpa using hj) i hi
    rw [hl, show t.length + 1 - 1 - (j + 1) = t.length - 1 - j by omega] at this
    exact this
