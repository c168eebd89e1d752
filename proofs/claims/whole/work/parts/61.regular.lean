def tks (n u : Int32) : Bool := !decide (n < 2) && !decide (8 < n) && !decide (u < 1) && !decide (n ≤ u)
theorem c_areTicks (n u : Int32) (S : zT) : fX7_areTicks n u S = some (if tks n u then 1 else 0, S) := by
  unfold fX7_areTicks fX7_isWithin tks
  by_cases h1 : n < 2
  · simp [h1, zbi_s]
  by_cases h2 : 8 < n
  · simp [h1, h2, zbi_s]
  have h4 : (n - 1 < u) ↔ n ≤ u := by
    obtain ⟨k, k1, k2, rfl⟩ := rng 2 8 (by omega) (by omega) h1 h2
    rw [show nI k - 1 = nI (k - 1) from pk_sub (b := 1) (by omega), Int32.lt_iff_toInt_lt, Int32.le_iff_toInt_le, nI_toInt (by omega), nI_toInt (by omega)]
    omega
  by_cases h3 : u < 1
  · simp [h1, h2, h3, zbi_s]
  by_cases h5 : n ≤ u
  · simp [h1, h2, h3, h4, h5, zbi_s]
  · simp [h1, h2, h3, h4, h5, zbi_s]
theorem m_isRegular (n u : Int32) (S : zT) : fX8_isRegular n u S = some (if tks n u then 1 else 0, S) := by
  unfold fX8_isRegular tks
  by_cases h1 : n < 2 <;> by_cases h2 : 8 < n <;> by_cases h3 : u < 1 <;> by_cases h4 : n ≤ u <;> simp [h1, h2, h3, h4]
theorem tks_of {n u : Int32} (h : tks n u = true) : ∃ N U : Nat, n = nI N ∧ u = nI U ∧ 2 ≤ N ∧ N ≤ 8 ∧ 1 ≤ U ∧ U < N := by
  unfold tks at h
  simp only [Bool.and_eq_true, Bool.not_eq_true', decide_eq_false_iff_not] at h
  obtain ⟨⟨⟨h1, h2⟩, h3⟩, h4⟩ := h
  obtain ⟨N, n1, n2, rfl⟩ := rng 2 8 (by omega) (by omega) h1 h2
  have h3' : ¬ u.toInt < 1 := by rw [Int32.lt_iff_toInt_lt] at h3; exact h3
  rw [Int32.le_iff_toInt_le, nI_toInt (by omega)] at h4
  refine ⟨N, u.toInt.toNat, rfl, ?_, n1, n2, by omega, by omega⟩
  rw [iZ_nI, Int.toNat_of_nonneg (by omega)]
  exact iZ_of u
/-- the offsets told: leg 0's does not count -/
def off_w (x : Int32) (i : Nat) : Nat := if i = 0 then 0 else of_w x i
theorem c_reg13 {K N : Nat} {u x : Int32} (hK : K ≤ 8) (hN : N ≤ 8) (S : zT) (h0 : S.1 1 0 = nI K) : ∀ (d i f : Nat), i + d = K → 1 ≤ i → d < f → ((∀ j, i ≤ j → j < K → of_w x j < N) → zfix (fun _ _ _ _ _ => none) fX7_regular_13 f (nI N) u x (nI i) S = zbv (fX0_keep 1 S) (fun S_1 => zbv (fX6_layRow 1 (nI N) u x S_1) fun S_2 => some (1, S_2))) ∧ (¬ (∀ j, i ≤ j → j < K → of_w x j < N) → zfix (fun _ _ _ _ _ => none) fX7_regular_13 f (nI N) u x (nI i) S = some (0, S)) := by
  intro d
  induction d with
  | zero =>
    intro i f h1 hi h2
    obtain ⟨f, rfl⟩ : ∃ g, f = g + 1 := ⟨f - 1, by omega⟩
    refine ⟨fun _ => ?_, fun h => absurd (fun j h1 h2 => by omega) h⟩
    rw [zfix_s]; unfold fX7_regular_13
    rw [if_pos (by rw [h0]; exact nI_le (by omega) (by omega))]
  | succ d ih =>
    intro i f h1 hi h2
    obtain ⟨f, rfl⟩ : ∃ g, f = g + 1 := ⟨f - 1, by omega⟩
    obtain ⟨e1, e2⟩ := ih (i + 1) f (by omega) (by omega) (by omega)
    have lo := of_lt x i
    rw [zfix_s]; unfold fX7_regular_13
    rw [if_neg (by rw [h0]; exact nI_ge (by omega) (by omega)), c_offsetOf x (by omega), zbi_s]
    by_cases c : of_w x i < N
    · rw [if_pos (nI_lt c (by omega)), nI_1]
      refine ⟨fun h => e1 (fun j h1 h2 => h j (by omega) h2), fun h => e2 (fun g => h (fun j h1 h2 => ?_))⟩
      by_cases q : j = i
      · subst q; exact c
      · exact g j (by omega) h2
    · rw [if_neg (nI_nlt (by omega) (by omega))]
      exact ⟨fun h => absurd (h i (by omega) (by omega)) c, fun _ => rfl⟩
theorem m_reg23 {K N : Nat} {u x : Int32} (hK : K ≤ 8) (hN : N ≤ 8) (S : zT) (h0 : S.1 102 0 = nI K) : ∀ (d i f : Nat), i + d = K → 1 ≤ i → d < f → ((∀ j, i ≤ j → j < K → of_w x j < N) → zfix (fun _ _ _ _ _ => none) fX8_regular_23 f (nI N) u x (nI i) S = zbv (fX8_keep S) (fun S_3 => zlet (zsi S_3 107 0 0) fun S_4 => (zfix (fun _ _ _ _ _ => none) fX8_regular_69 zF) (nI N) u x 1 S_4)) ∧ (¬ (∀ j, i ≤ j → j < K → of_w x j < N) → zfix (fun _ _ _ _ _ => none) fX8_regular_23 f (nI N) u x (nI i) S = some (0, S)) := by
  intro d
  induction d with
  | zero =>
    intro i f h1 hi h2
    obtain ⟨f, rfl⟩ : ∃ g, f = g + 1 := ⟨f - 1, by omega⟩
    refine ⟨fun _ => ?_, fun h => absurd (fun j h1 h2 => by omega) h⟩
    rw [zfix_s]; unfold fX8_regular_23
    rw [if_pos (by rw [h0]; exact nI_le (by omega) (by omega))]
  | succ d ih =>
    intro i f h1 hi h2
    obtain ⟨f, rfl⟩ : ∃ g, f = g + 1 := ⟨f - 1, by omega⟩
    obtain ⟨e1, e2⟩ := ih (i + 1) f (by omega) (by omega) (by omega)
    have lo := of_lt x i
    rw [zfix_s]; unfold fX8_regular_23
    rw [if_neg (by rw [h0]; exact nI_ge (by omega) (by omega)), of_m x (by omega)]
    by_cases c : of_w x i < N
    · rw [if_pos (nI_lt c (by omega)), nI_1]
      refine ⟨fun h => e1 (fun j h1 h2 => h j (by omega) h2), fun h => e2 (fun g => h (fun j h1 h2 => ?_))⟩
      by_cases q : j = i
      · subst q; exact c
      · exact g j (by omega) h2
    · rw [if_neg (nI_nlt (by omega) (by omega))]
      exact ⟨fun h => absurd (h i (by omega) (by omega)) c, fun _ => rfl⟩
theorem m_reg69 {K N U : Nat} {x : Int32} (hK2 : 2 ≤ K) (hK : K ≤ 8) (hN1 : 2 ≤ N) (hN : N ≤ 8) (hU : U < N) (ho : ∀ j, 1 ≤ j → j < K → of_w x j < N) : ∀ (d i f : Nat) (S : zT), i + d = K → 1 ≤ i → d < f → S.1 102 0 = nI K → (∀ j, j < i → S.1 107 j = nI (off_w x j)) → ∃ S', zfix (fun _ _ _ _ _ => none) fX8_regular_69 f (nI N) (nI U) x (nI i) S = some (1, S') ∧ zFr [102, 107] [] S S' ∧ S'.1 102 = tk_w (S.1 102) N (rw_s K (off_w x) U N) := by
  intro d
  induction d with
  | zero =>
    intro i f S h1 hi h2 h0 hs
    obtain ⟨f, rfl⟩ : ∃ g, f = g + 1 := ⟨f - 1, by omega⟩
    obtain ⟨S', e1, e2⟩ := m_laysRow (off := off_w x) hK2 hK (by omega) (by omega) (by omega) S h0 (N := N) (u := U) (fun j hj => ⟨hs j (by omega), by
      unfold off_w
      by_cases q : j = 0
      · rw [if_pos q]; omega
      · rw [if_neg q]; exact ho j (by omega) hj⟩)
    refine ⟨S', ?_, zFr_mono (frX8_laysRow e1) (by simp) (by simp), e2⟩
    rw [zfix_s]; unfold fX8_regular_69
    rw [if_pos (by rw [h0]; exact nI_le (by omega) (by omega)), e1, zbv_s]
  | succ d ih =>
    intro i f S h1 hi h2 h0 hs
    obtain ⟨f, rfl⟩ : ∃ g, f = g + 1 := ⟨f - 1, by omega⟩
    obtain ⟨S', e1, e2, e3⟩ := ih (i + 1) f (zsi S 107 i (nI (of_w x i))) (by omega) (by omega) (by omega) (by rw [zsi_n _ _ (by omega), h0]) (fun j hj => by
      rw [zsi_k]; unfold upd
      by_cases q : j = i
      · rw [if_pos q]; subst q; unfold off_w; rw [if_neg (by omega)]
      · rw [if_neg q]; exact hs j (by omega))
    rw [zsi_n _ _ (by omega)] at e3
    refine ⟨S', ?_, zFr_trans (zFr_si (by simp)) e2, e3⟩
    rw [zfix_s]; unfold fX8_regular_69
    rw [if_neg (by rw [h0]; exact nI_ge (by omega) (by omega)), if_pos (gin (by omega) (by omega)), of_m x (by omega), nI_clamp (by omega), zlet_s, nI_1]
    exact e1
theorem K_regular : zK_regular zInv := by
  intro a1 a2 x S hI
  obtain ⟨hb, ⟨K, n, hw, hr⟩, hs, hc, hm⟩ := id hI
  have hK2 := hw.1.2.1
  have hK := hw.1.2.2
  have c10 : S.1 1 0 = nI K := by rw [hr.1.1, hw.1.1]
  by_cases q1 : ¬ tks a1 a2 = true
  · obtain ⟨S2, p⟩ := m_pre hb
    refine ⟨0, S, S2, ?_, ?_, zInv_no hI p⟩
    · unfold fX7_regular; rw [c_areTicks, zbi_s, if_neg q1, if_pos rfl]
    · unfold fX8_regular; rw [zlet_s, p.1, zbv_s, m_isRegular, zbi_s, if_neg q1, if_pos rfl]
  replace q1 : tks a1 a2 = true := Decidable.not_not.mp q1
  obtain ⟨N, U, rfl, rfl, n1, n2, u1, u2⟩ := tks_of q1
  obtain ⟨r1, r2⟩ := c_reg13 (u := nI U) (x := x) hK n2 S c10 (K - 1) 1 zF (by omega) (by omega) (by unfold zF; omega)
  by_cases q2 : ¬ (∀ j, 1 ≤ j → j < K → of_w x j < N)
  · obtain ⟨S2, p⟩ := m_pre hb
    have h0 : S2.1 102 0 = nI K := by rw [p.2.1, hw.1.1]
    obtain ⟨-, r4⟩ := m_reg23 (u := nI U) (x := x) hK n2 S2 h0 (K - 1) 1 zF (by omega) (by omega) (by unfold zF; omega)
    refine ⟨0, S, S2, ?_, ?_, zInv_no hI p⟩
    · unfold fX7_regular; rw [c_areTicks, zbi_s, if_pos q1, if_neg one_ne]; exact r2 q2
    · unfold fX8_regular; rw [zlet_s, p.1, zbv_s, m_isRegular, zbi_s, if_pos q1, if_neg one_ne]; exact r4 q2
  replace q2 : ∀ j, 1 ≤ j → j < K → of_w x j < N := Classical.not_not.mp q2
  obtain ⟨Sa, ea, ha, fa⟩ := mutC hc hw hr (S0 := S) (fun _ _ _ => rfl)
  obtain ⟨S1, e1, f1, f2⟩ := c_layRow (b := 1) (K := K) (N := N) (u := U) (x := x) (off := off_w x) hK2 hK (by omega) (by omega) (by omega) rfl (fun i h1 h2 => ⟨by unfold off_w; rw [if_neg (by omega)], by unfold off_w; rw [if_neg (by omega)]; exact q2 i h1 h2⟩) Sa (by rw [fa 1 0 (by omega), c10])
  have g0 : ∀ k j, k ≠ 7 → S1.1 k j = (zsi Sa 1 6 (nI N)).1 k j := fun k j h => (f1 k j (by simp; omega) (by simp)).1
  have g1 : ∀ k j, k ≠ 1 → k ≠ 7 → S1.1 k j = Sa.1 k j := fun k j h h2 => by rw [g0 k j h2, zsi_n _ _ h]
  have h101 : ∀ k j, 101 ≤ k → S1.1 k j = S.1 k j := fun k j h => by rw [g1 k j (by omega) (by omega), fa k j (by omega)]
  obtain ⟨S2, p⟩ := m_pre (S := S1) (by rw [h101 101 4 (by omega)]; exact hb)
  obtain ⟨Sb, eb, hmb⟩ := mutM hm h101 p rfl rfl rfl
  have frb := frX8_keep eb
  have hG1 : Gf S1 = Gf S := Gf_eq (h101 101 4 (by omega)) (funext fun j => h101 102 j (by omega))
  have h102 : Sb.1 102 = Gf S := by rw [frb.cell (by simp) (by omega), p.2.1, hG1]
  have h0 : S2.1 102 0 = nI K := by rw [p.2.1, hG1, hw.1.1]
  obtain ⟨r3, -⟩ := m_reg23 (u := nI U) (x := x) hK n2 S2 h0 (K - 1) 1 zF (by omega) (by omega) (by unfold zF; omega)
  obtain ⟨S3, e3, f3, f4⟩ := m_reg69 (x := x) hK2 hK n1 n2 u2 q2 (K - 1) 1 zF (zsi Sb 107 0 0) (by omega) (by omega) (by unfold zF; omega) (by rw [zsi_n _ _ (by omega), h102, hw.1.1]) (fun j hj => by
    obtain rfl : j = 0 := by omega
    rw [zsi_k, pk_us]; rfl)
  rw [zsi_n _ _ (by omega), h102] at f4
  have fr3 : zFr [102, 107] [] Sb S3 := zFr_trans (zFr_si (by simp)) f3
  refine ⟨1, S1, S3, ?_, ?_, zInv_mut (HC_frame (fun k h1 _ => funext fun j => g1 k j (by omega) (by omega)) ha) p (HM_frame (fr3.slot (by simp) (by simp)) (fr3.cell (by simp) (by omega)) hmb) ?_ (fun k hk => ?_) (K := K) (n := N) ?_ ?_⟩
  · unfold fX7_regular
    rw [c_areTicks, zbi_s, if_pos q1, if_neg one_ne]
    refine (r1 q2).trans ?_
    rw [ea, zbv_s, e1, zbv_s]
  · unfold fX8_regular
    rw [zlet_s, p.1, zbv_s, m_isRegular, zbi_s, if_pos q1, if_neg one_ne]
    refine (r3 q2).trans ?_
    rw [eb, zbv_s, zlet_s]
    exact e3
  · rw [fr3.slot (by simp) (by simp), frb.slot (by simp) (by simp)]; exact p.2.2.1
  · rw [fr3.cell (by simp; omega) (by omega), frb.cell (by simp; omega) (by omega)]
  · rw [f4]; exact wf_tk hw (by omega) (by omega) (fun t _ => rw_lt hK _ _ _ _)
  · rw [f4]
    refine rC_tk hK (by omega) hr (fun j hj => ?_) ?_ (fun j hj => ?_) (fun j hj => ?_) (fun t ht => ?_)
    · rw [g0 1 j (by omega), zsi_k, pk_un (by omega), fa 1 j (by omega)]
    · rw [g0 1 6 (by omega), zsi_k, pk_us]
    · rw [g1 _ _ (by omega) (by omega), fa _ _ (by omega)]
    · rw [g1 _ _ (by omega) (by omega), fa _ _ (by omega)]
    · exact f2 t ht
