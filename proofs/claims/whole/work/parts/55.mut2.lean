def pl (x y : Int32) : Bool := !decide (x < -20) && !decide (20 < x) && !decide (y < -20) && !decide (20 < y)
theorem c_isPlace (x y : Int32) (S : zT) : fX7_isPlace x y S = some (if pl x y then 1 else 0, S) := by
  unfold fX7_isPlace fX7_isWithin pl
  by_cases h1 : x < -20 <;> by_cases h2 : 20 < x <;> by_cases h3 : y < -20 <;> by_cases h4 : 20 < y <;> simp [h1, h2, h3, h4, zbi_s]
theorem m_isPlace (x y : Int32) (S : zT) : fX8_isPlace x y S = some (if pl x y then 1 else 0, S) := by
  unfold fX8_isPlace pl
  by_cases h1 : x < -20 <;> by_cases h2 : 20 < x <;> by_cases h3 : y < -20 <;> by_cases h4 : 20 < y <;> simp [h1, h2, h3, h4]
theorem pl_bd {x y : Int32} (h : pl x y = true) : (-20 ≤ x.toInt ∧ x.toInt ≤ 20) ∧ (-20 ≤ y.toInt ∧ y.toInt ≤ 20) := by
  unfold pl at h
  simp only [Bool.and_eq_true, Bool.not_eq_true', decide_eq_false_iff_not] at h
  obtain ⟨⟨⟨h1, h2⟩, h3⟩, h4⟩ := h
  rw [Int32.lt_iff_toInt_lt] at h1 h2 h3 h4
  rw [show (-20 : Int32).toInt = -20 from rfl] at h1 h3
  rw [show (20 : Int32).toInt = 20 from rfl] at h2 h4
  omega
theorem one_ne : ¬ (1 : Int32) = 0 := by decide
theorem wf_45 {w : Nat → Int32} {K n : Nat} {x y : Int32} (hw : wfW w K n) (hx : -20 ≤ x.toInt ∧ x.toInt ≤ 20) (hy : -20 ≤ y.toInt ∧ y.toInt ≤ 20) : wfW (upd (upd w 4 x) 5 y) K n := by
  obtain ⟨a, b, c1, c2, c3, c4, c5, d, f1, f2⟩ := hw
  refine ⟨by simpa [upd] using a, by simpa [upd] using b, by simpa [upd] using c1, by simpa [upd] using c2, by simpa [upd] using c3, by simpa [upd] using hx, by simpa [upd] using hy, fun i hi => ?_, fun t ht => ?_, fun t ht h => ?_⟩
  · have := d i hi
    rw [pk_un (by omega), pk_un (by omega), pk_un (by omega), pk_un (by omega)]; exact this
  · rw [pk_un (by omega), pk_un (by omega)]; exact f1 t ht
  · rw [pk_un (by omega), pk_un (by omega)]; exact f2 t ht h
theorem wf_23 {w : Nat → Int32} {K n : Nat} {x y : Int32} (hw : wfW w K n) (hx : 0 ≤ x.toInt ∧ x.toInt ≤ 9) (hy : 0 ≤ y.toInt ∧ y.toInt ≤ 40) : wfW (upd (upd w 2 x) 3 y) K n := by
  obtain ⟨a, b, c1, c2, c3, c4, c5, d, f1, f2⟩ := hw
  refine ⟨by simpa [upd] using a, by simpa [upd] using b, by simpa [upd] using c1, by simpa [upd] using hx, by simpa [upd] using hy, by simpa [upd] using c4, by simpa [upd] using c5, fun i hi => ?_, fun t ht => ?_, fun t ht h => ?_⟩
  · have := d i hi
    rw [pk_un (by omega), pk_un (by omega), pk_un (by omega), pk_un (by omega)]; exact this
  · rw [pk_un (by omega), pk_un (by omega)]; exact f1 t ht
  · rw [pk_un (by omega), pk_un (by omega)]; exact f2 t ht h
/-- both at the end of a change that writes only cells 1 .. 7, and only the model's row -/
theorem mut_end {S Sa S1 S2 Sb S3 : zT} {hs : List (Nat → Int32)} {K n : Nat} (hHC : HC hs Sa) (g1 : ∀ k j, 8 ≤ k → S1.1 k j = Sa.1 k j) (p : preM S1 S2) (hmb : HM hs Sb) (eb : zFr [103] [3] S2 Sb) (e3 : zFr [102] [] Sb S3) (hw : wfW (S3.1 102) K n) (hr : rC (S3.1 102) K n S1 1) : zInv S3 := by
  refine zInv_mut (HC_frame (fun k h1 _ => funext fun j => g1 k j h1) hHC) p (HM_frame (e3.slot (by simp) (by simp)) (e3.cell (by simp) (by omega)) hmb) ?_ (fun k hk => ?_) hw hr
  · rw [e3.slot (by simp) (by simp), eb.slot (by simp) (by simp)]; exact p.2.2.1
  · rw [e3.cell (by simp; omega) (by omega), eb.cell (by simp; omega) (by omega)]
theorem K_middle : zK_middle zInv := by
  intro x y S hI
  obtain ⟨hb, ⟨K, n, hw, hr⟩, hs, hc, hm⟩ := id hI
  by_cases hp : pl x y = true
  · obtain ⟨Sa, ea, ha, fa⟩ := mutC hc hw hr (S0 := S) (fun _ _ _ => rfl)
    obtain ⟨S1, hS1⟩ : ∃ S1, S1 = zsi (zsi Sa 1 2 x) 1 3 y := ⟨_, rfl⟩
    have g1 : ∀ k j, k ≠ 1 → S1.1 k j = Sa.1 k j := fun k j h => by rw [hS1, zsi_n _ _ h, zsi_n _ _ h]
    have h101 : ∀ k j, 101 ≤ k → S1.1 k j = S.1 k j := fun k j h => by rw [g1 k j (by omega), fa k j (by omega)]
    obtain ⟨S2, p⟩ := m_pre (S := S1) (by rw [h101 101 4 (by omega)]; exact hb)
    obtain ⟨Sb, eb, hmb⟩ := mutM hm h101 p rfl rfl rfl
    have frb := frX8_keep eb
    have h102 : Sb.1 102 = Gf S := by
      rw [frb.cell (by simp) (by omega), p.2.1]
      exact Gf_eq (h101 101 4 (by omega)) (funext fun j => h101 102 j (by omega))
    have e102 : (zsi (zsi Sb 102 4 x) 102 5 y).1 102 = upd (upd (Gf S) 4 x) 5 y := by rw [zsi_k, zsi_k, h102]
    refine ⟨1, S1, zsi (zsi Sb 102 4 x) 102 5 y, ?_, ?_, mut_end (S := S) ha (fun k j h => g1 k j (by omega)) p hmb frb (zFr_trans (zFr_si (by simp)) (zFr_si (by simp))) (K := K) (n := n) ?_ ?_⟩
    · unfold fX7_middle
      rw [c_isPlace, zbi_s, if_pos hp, if_neg one_ne, ea, zbv_s]
      simp only [zlet_s]; rw [← hS1]
    · unfold fX8_middle
      rw [zlet_s, p.1, zbv_s, m_isPlace, zbi_s, if_pos hp, if_neg one_ne, eb, zbv_s]
      simp only [zlet_s]
    · rw [e102]; exact wf_45 hw (pl_bd hp).1 (pl_bd hp).2
    · rw [e102]
      obtain ⟨⟨a0, a1, a2, a3, a4, a5, a6⟩, b1, b2, b3⟩ := hr
      have s1 : ∀ j, j ≠ 2 → j ≠ 3 → S1.1 1 j = S.1 1 j := fun j h1 h2 => by rw [hS1, zsi_k, zsi_k, pk_un h2, pk_un h1, fa 1 j (by omega)]
      refine ⟨⟨by rw [s1 0 (by omega) (by omega)]; simpa [upd] using a0, by rw [s1 1 (by omega) (by omega)]; simpa [upd] using a1, by rw [hS1]; simp [zsi_app, upd], by rw [hS1]; simp [zsi_app, upd], by rw [s1 4 (by omega) (by omega)]; simpa [upd] using a4, by rw [s1 5 (by omega) (by omega)]; simpa [upd] using a5, by rw [s1 6 (by omega) (by omega)]; simpa [upd] using a6⟩, fun i hi => ?_, fun i hi => ?_, fun t ht => ?_⟩
      · rw [g1 _ _ (by omega), fa _ _ (by omega), pk_un (by omega), pk_un (by omega)]; exact b1 i hi
      · rw [g1 _ _ (by omega), fa _ _ (by omega), pk_un (by omega), pk_un (by omega)]; exact b2 i hi
      · rw [g1 _ _ (by omega), fa _ _ (by omega), pk_un (by omega), pk_un (by omega)]; exact b3 t ht
  · obtain ⟨S2, p⟩ := m_pre hb
    refine ⟨0, S, S2, ?_, ?_, zInv_no hI p⟩
    · unfold fX7_middle; rw [c_isPlace, zbi_s, if_neg hp, if_pos rfl]
    · unfold fX8_middle; rw [zlet_s, p.1, zbv_s, m_isPlace, zbi_s, if_neg hp, if_pos rfl]
theorem K_pace : zK_pace zInv := by
  intro x y S hI
  obtain ⟨hb, ⟨K, n, hw, hr⟩, hs, hc, hm⟩ := id hI
  by_cases q1 : x < 0
  · obtain ⟨S2, p⟩ := m_pre hb
    refine ⟨0, S, S2, ?_, ?_, zInv_no hI p⟩
    · simp [fX7_pace, fX7_isWithin, zbi_s, q1]
    · unfold fX8_pace; rw [zlet_s, p.1, zbv_s, if_pos q1]
  by_cases q2 : 9 < x
  · obtain ⟨S2, p⟩ := m_pre hb
    refine ⟨0, S, S2, ?_, ?_, zInv_no hI p⟩
    · simp [fX7_pace, fX7_isWithin, zbi_s, q1, q2]
    · unfold fX8_pace; rw [zlet_s, p.1, zbv_s, if_neg q1, if_pos q2]
  by_cases q3 : y < 0
  · obtain ⟨S2, p⟩ := m_pre hb
    refine ⟨0, S, S2, ?_, ?_, zInv_no hI p⟩
    · simp [fX7_pace, fX7_isWithin, zbi_s, q1, q2, q3]
    · unfold fX8_pace; rw [zlet_s, p.1, zbv_s, if_neg q1, if_neg q2, if_pos q3]
  by_cases q4 : 40 < y
  · obtain ⟨S2, p⟩ := m_pre hb
    refine ⟨0, S, S2, ?_, ?_, zInv_no hI p⟩
    · simp [fX7_pace, fX7_isWithin, zbi_s, q1, q2, q3, q4]
    · unfold fX8_pace; rw [zlet_s, p.1, zbv_s, if_neg q1, if_neg q2, if_neg q3, if_neg (by rw [Int32.not_le]; exact q4)]
  have hx : 0 ≤ x.toInt ∧ x.toInt ≤ 9 := by
    obtain ⟨k, k1, k2, rfl⟩ := rng 0 9 (by omega) (by omega) q1 q2
    rw [nI_toInt (by omega)]; omega
  have hy : 0 ≤ y.toInt ∧ y.toInt ≤ 40 := by
    obtain ⟨k, k1, k2, rfl⟩ := rng 0 40 (by omega) (by omega) q3 q4
    rw [nI_toInt (by omega)]; omega
  obtain ⟨Sa, ea, ha, fa⟩ := mutC hc hw hr (S0 := S) (fun _ _ _ => rfl)
  obtain ⟨S1, hS1⟩ : ∃ S1, S1 = zsi (zsi Sa 1 4 x) 1 5 y := ⟨_, rfl⟩
  have g1 : ∀ k j, k ≠ 1 → S1.1 k j = Sa.1 k j := fun k j h => by rw [hS1, zsi_n _ _ h, zsi_n _ _ h]
  have h101 : ∀ k j, 101 ≤ k → S1.1 k j = S.1 k j := fun k j h => by rw [g1 k j (by omega), fa k j (by omega)]
  obtain ⟨S2, p⟩ := m_pre (S := S1) (by rw [h101 101 4 (by omega)]; exact hb)
  obtain ⟨Sb, eb, hmb⟩ := mutM hm h101 p rfl rfl rfl
  have frb := frX8_keep eb
  have h102 : Sb.1 102 = Gf S := by
    rw [frb.cell (by simp) (by omega), p.2.1]
    exact Gf_eq (h101 101 4 (by omega)) (funext fun j => h101 102 j (by omega))
  have e102 : (zsi (zsi Sb 102 2 x) 102 3 y).1 102 = upd (upd (Gf S) 2 x) 3 y := by rw [zsi_k, zsi_k, h102]
  refine ⟨1, S1, zsi (zsi Sb 102 2 x) 102 3 y, ?_, ?_, mut_end (S := S) ha (fun k j h => g1 k j (by omega)) p hmb frb (zFr_trans (zFr_si (by simp)) (zFr_si (by simp))) (K := K) (n := n) ?_ ?_⟩
  · simp [fX7_pace, fX7_isWithin, zbi_s, zbv_s, zlet_s, q1, q2, q3, q4, ea, hS1]
  · unfold fX8_pace
    rw [zlet_s, p.1, zbv_s, if_neg q1, if_neg q2, if_neg q3, if_pos (by rw [← Int32.not_lt]; exact q4), eb, zbv_s]
    simp only [zlet_s]
  · rw [e102]; exact wf_23 hw hx hy
  · rw [e102]
    obtain ⟨⟨a0, a1, a2, a3, a4, a5, a6⟩, b1, b2, b3⟩ := hr
    have s1 : ∀ j, j ≠ 4 → j ≠ 5 → S1.1 1 j = S.1 1 j := fun j h1 h2 => by rw [hS1, zsi_k, zsi_k, pk_un h2, pk_un h1, fa 1 j (by omega)]
    refine ⟨⟨by rw [s1 0 (by omega) (by omega)]; simpa [upd] using a0, by rw [s1 1 (by omega) (by omega)]; simpa [upd] using a1, by rw [s1 2 (by omega) (by omega)]; simpa [upd] using a2, by rw [s1 3 (by omega) (by omega)]; simpa [upd] using a3, by rw [hS1]; simp [zsi_app, upd], by rw [hS1]; simp [zsi_app, upd], by rw [s1 6 (by omega) (by omega)]; simpa [upd] using a6⟩, fun i hi => ?_, fun i hi => ?_, fun t ht => ?_⟩
    · rw [g1 _ _ (by omega), fa _ _ (by omega), pk_un (by omega), pk_un (by omega)]; exact b1 i hi
    · rw [g1 _ _ (by omega), fa _ _ (by omega), pk_un (by omega), pk_un (by omega)]; exact b2 i hi
    · rw [g1 _ _ (by omega), fa _ _ (by omega), pk_un (by omega), pk_un (by omega)]; exact b3 t ht
/-! legs and ticks that there are -/
theorem c_hasLeg {w : Nat → Int32} {K n : Nat} {S : zT} {b : Nat} (hr : rC w K n S b) (a : Int32) : fX6_hasLeg b a S = some (if a < 0 then 0 else if w 0 ≤ a then 0 else 1, S) := by
  unfold fX6_hasLeg; rw [hr.1.1]; split
  · rfl
  · split <;> rfl
theorem m_isLeg (a : Int32) (S : zT) : fX8_isLeg a S = some (if a < 0 then 0 else if S.1 102 0 ≤ a then 0 else 1, S) := by
  unfold fX8_isLeg; split
  · rfl
  · split <;> rfl
theorem c_hasTick {w : Nat → Int32} {K n : Nat} {S : zT} {b : Nat} (hr : rC w K n S b) (a : Int32) : fX6_hasTick b a S = some (if a < 0 then 0 else if w 6 ≤ a then 0 else 1, S) := by
  unfold fX6_hasTick; rw [hr.1.2.2.2.2.2.2]; split
  · rfl
  · split <;> rfl
theorem m_isTick (a : Int32) (S : zT) : fX8_isTick a S = some (if a < 0 then 0 else if S.1 102 6 ≤ a then 0 else 1, S) := by
  unfold fX8_isTick; split
  · rfl
  · split <;> rfl
theorem in_of {x : Int32} {K : Nat} (hK : K < 2147483648) (h1 : ¬ x < 0) (h2 : ¬ nI K ≤ x) : ∃ i : Nat, i < K ∧ x = nI i := by
  rw [Int32.lt_iff_toInt_lt] at h1
  rw [Int32.le_iff_toInt_le, nI_toInt (by omega)] at h2
  have h1' : ¬ x.toInt < 0 := h1
  refine ⟨x.toInt.toNat, by omega, ?_⟩
  rw [iZ_nI, Int.toNat_of_nonneg (by omega)]
  exact iZ_of x
theorem shl1 : ∀ k, k < 9 → zshl 1 (nI k) = nI (2 ^ k) := by decide +kernel
