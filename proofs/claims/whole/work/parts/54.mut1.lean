theorem rng {x : Int32} (a b : Nat) (hab : a ≤ b) (hb : b < 2147483648) (h1 : ¬ x < nI a) (h2 : ¬ nI b < x) : ∃ k : Nat, a ≤ k ∧ k ≤ b ∧ x = nI k := by
  rw [Int32.lt_iff_toInt_lt, nI_toInt (by omega)] at h1
  rw [Int32.lt_iff_toInt_lt, nI_toInt (by omega)] at h2
  refine ⟨x.toInt.toNat, by omega, by omega, ?_⟩
  rw [iZ_nI, Int.toNat_of_nonneg (by omega)]
  exact iZ_of x
/-! a Walker made anew -/
theorem c_make2 {b k : Nat} (h8 : k ≤ 8) : ∀ (d i f : Nat) (S : zT), i + d = k → d < f → S.1 b 0 = nI k → ∃ S', zfix (fun _ _ _ => none) (fX6_makeAnew_12 b) f (nI k) (nI i) S = some S' ∧ (S'.1 b 0 = nI k ∧ S'.1 b 1 = S.1 b 1 ∧ S'.1 b 2 = 0 ∧ S'.1 b 3 = 2 * ((zshr (nI k + 1) 1) - 1) ∧ S'.1 b 4 = 0 ∧ S'.1 b 5 = 10 ∧ S'.1 b 6 = 1) ∧ (∀ j, S'.1 (b + 2) j = if i ≤ j ∧ j < k then iX j else S.1 (b + 2) j) ∧ (∀ j, S'.1 (b + 4) j = if i ≤ j ∧ j < k then iY j else S.1 (b + 4) j) ∧ S'.1 (b + 6) 0 = nI (2 ^ k - 1) := by
  intro d
  induction d with
  | zero =>
    intro i f S h1 h2 h3
    obtain ⟨f, rfl⟩ : ∃ g, f = g + 1 := ⟨f - 1, by omega⟩
    refine ⟨zsi (zsi (zsi (zsi (zsi (zsi S b 2 0) b 3 (2 * ((zshr (nI k + 1) 1) - 1))) b 4 0) b 5 10) b 6 1) (b + 6) 0 (nI (2 ^ k - 1)), ?_, ?_, fun j => ?_, fun j => ?_, ?_⟩
    · rw [zfix_s]; unfold fX6_makeAnew_12
      rw [if_pos (by rw [h3]; exact nI_le (by omega) (by omega))]
      simp only [zlet_s]
      unfold fX6_fullSet
      rw [zbi_s]
      have e0 : (zsi (zsi (zsi (zsi (zsi S b 2 0) b 3 (2 * ((zshr (nI k + 1) 1) - 1))) b 4 0) b 5 10) b 6 1).1 b 0 = nI k := by simp [zsi_app, h3]
      rw [e0, ini6 k (by omega), show (0 : Int32) = nI 0 from rfl, put_in (by omega) (by omega), zbv_s]
    · simp [zsi_app, h3]
    · rw [if_neg (by omega)]; simp [zsi_app]
    · rw [if_neg (by omega)]; simp [zsi_app]
    · simp [zsi_app]
  | succ d ih =>
    intro i f S h1 h2 h3
    obtain ⟨f, rfl⟩ : ∃ g, f = g + 1 := ⟨f - 1, by omega⟩
    obtain ⟨S', e1, e2, e3, e4, e5⟩ := ih (i + 1) f (zsi (zsi S (b + 2) i (iX i)) (b + 4) i (iY i)) (by omega) (by omega) (by simp [zsi_app, h3])
    have body : ∀ v, v = iX i → fX6_makeAnew_37 b (zfix (fun _ _ _ => none) (fX6_makeAnew_12 b) f) (nI k) (nI i) v (nI i) S = some S' := by
      intro v hv
      unfold fX6_makeAnew_37
      rw [put_in (by omega) (by omega), zbv_s, put_in (by omega) (by omega), zbv_s, ini4 i (by omega), nI_1, hv]
      exact e1
    refine ⟨S', ?_, ?_, fun j => ?_, fun j => ?_, e5⟩
    · rw [zfix_s]; unfold fX6_makeAnew_12
      rw [if_neg (by rw [h3]; exact nI_ge (by omega) (by omega))]
      by_cases hp : i % 2 = 0
      · rw [if_pos ((ini2 i (by omega)).mpr hp)]; exact body _ (by simp [iX, hp])
      · rw [if_neg (fun h => hp ((ini2 i (by omega)).mp h))]; exact body _ (by simp [iX, hp])
    · simpa [zsi_app] using e2
    · rw [e3 j]
      by_cases q1 : i + 1 ≤ j ∧ j < k
      · rw [if_pos q1, if_pos (by omega)]
      · rw [if_neg q1]
        by_cases q2 : j = i
        · subst q2; rw [if_pos (by omega)]; simp [zsi_app]
        · rw [if_neg (by omega)]; simp [zsi_app, q2]
    · rw [e4 j]
      by_cases q1 : i + 1 ≤ j ∧ j < k
      · rw [if_pos q1, if_pos (by omega)]
      · rw [if_neg q1]
        by_cases q2 : j = i
        · subst q2; rw [if_pos (by omega)]; simp [zsi_app]
        · rw [if_neg (by omega)]; simp [zsi_app, q2]
theorem c_make {b k : Nat} {kd : Int32} (h2 : 2 ≤ k) (h8 : k ≤ 8) (S : zT) : ∃ S', fX6_makeAnew b (nI k) kd S = some S' ∧ ∀ g, rC (layF k kd g) k 1 S' b := by
  obtain ⟨S', e1, ⟨a0, a1, a2, a3, a4, a5, a6⟩, e3, e4, e5⟩ := c_make2 (b := b) h8 k 0 zF (zsi (zsi S b 0 (nI k)) b 1 kd) (by omega) (by unfold zF; omega) (by simp [zsi_app])
  refine ⟨S', ?_, fun g => ⟨⟨a0, ?_, a2, ?_, a4, a5, a6⟩, fun i hi => ?_, fun i hi => ?_, fun t ht => ?_⟩⟩
  · unfold fX6_makeAnew
    simp only [zlet_s]
    exact e1
  · rw [a1]; simp [zsi_app, layF, wIn]
  · rw [a3, ini7 k (by omega) h2]; simp [layF, wIn]
  · rw [e3 i, if_pos (by omega)]
    simp only [layF, wIn]
    rw [if_neg (by omega), if_neg (by omega), if_neg (by omega), if_neg (by omega), if_neg (by omega), if_neg (by omega), if_pos (by omega), show 7 + i - 7 = i by omega]
  · rw [e4 i, if_pos (by omega)]
    simp only [layF, wIn]
    rw [if_neg (by omega), if_neg (by omega), if_neg (by omega), if_neg (by omega), if_neg (by omega), if_neg (by omega), if_neg (by omega), if_pos (by omega), show 15 + i - 15 = i by omega]
  · obtain rfl : t = 0 := by omega
    rw [e5]; simp [layF, wIn]
theorem iX_bd (i : Nat) : -20 ≤ (iX i).toInt ∧ (iX i).toInt ≤ 20 := by
  unfold iX; split <;> decide
theorem wf_lay {k : Nat} {kd : Int32} (h2 : 2 ≤ k) (h8 : k ≤ 8) (hd : 0 ≤ kd.toInt ∧ kd.toInt ≤ 2) (g : Nat → Int32) : wfW (layF k kd g) k 1 := by
  have z0 : layF k kd g 0 = nI k := by simp [layF, wIn]
  have z1 : layF k kd g 1 = kd := by simp [layF, wIn]
  have z2 : layF k kd g 2 = 0 := by simp [layF, wIn]
  have z3 : layF k kd g 3 = 10 := by simp [layF, wIn]
  have z4 : layF k kd g 4 = 0 := by simp [layF, wIn]
  have z5 : layF k kd g 5 = nI (2 * ((k + 1) / 2 - 1)) := by simp [layF, wIn]
  have z6 : layF k kd g 6 = 1 := by simp [layF, wIn]
  refine ⟨⟨z0, h2, h8⟩, ⟨z6, by omega, by omega⟩, by rw [z1]; exact hd, by rw [z2]; decide, by rw [z3]; decide, by rw [z4]; decide, ?_, fun i hi => ⟨?_, ?_⟩, fun t ht => ?_, fun t ht h => ?_⟩
  · rw [z5, nI_toInt (by omega)]; omega
  · simp only [layF, wIn]
    rw [if_neg (by omega), if_neg (by omega), if_neg (by omega), if_neg (by omega), if_neg (by omega), if_neg (by omega), if_pos (by omega)]
    exact iX_bd _
  · simp only [layF, wIn]
    rw [if_neg (by omega), if_neg (by omega), if_neg (by omega), if_neg (by omega), if_neg (by omega), if_neg (by omega), if_neg (by omega), if_pos (by omega)]
    unfold iY
    rw [nI_toInt (by omega)]; omega
  · obtain rfl : t = 0 := by omega
    refine ⟨2 ^ k - 1, ?_, by simp [layF, wIn]⟩
    have : 0 < 2 ^ k := Nat.two_pow_pos k
    omega
  · simp only [layF, wIn]
    rw [if_neg (by omega), if_neg (by omega), if_neg (by omega), if_neg (by omega), if_neg (by omega), if_neg (by omega), if_neg (by omega), if_neg (by omega), if_pos (by omega)]
theorem zInv_start : ∃ S1, fX6_makeAnew 0 4 0 zZ = some S1 ∧ zInv (zLB S1) := by
  obtain ⟨S1, e1, e2⟩ := c_make (b := 0) (k := 4) (kd := 0) (by omega) (by omega) zZ
  have hb : (zLB S1).1 101 4 = 0 := by simp [zLB]
  have hG : Gf (zLB S1) = layF 4 0 ((zLB S1).1 102) := by unfold Gf; rw [if_pos hb]
  refine ⟨S1, e1, Or.inl hb, ⟨4, 1, by rw [hG]; exact wf_lay (by omega) (by omega) (by decide) _, ?_⟩, [], ⟨0, by omega, by simp [zLB]; rfl, by simp [zLB]; rfl, by simp, fun j w h => by simp at h⟩, by simp [zLB]; rfl, by simp, fun j w h => by simp at h⟩
  rw [hG]
  refine rC_state (S := S1) (b := 0) (by omega) (by omega) (fun j _ => ?_) (fun j _ => ?_) (fun j _ => ?_) (fun j _ => ?_) (e2 _) <;> simp [zLB]
/-- a call that changes something, done -/
theorem zInv_mut {S1 S2 S3 : zT} {hs : List (Nat → Int32)} {K n : Nat} (hc : HC hs S1) (p : preM S1 S2) (hm : HM hs S3) (h4 : S3.1 101 4 = 1) (h5 : ∀ k, k < 101 → S3.1 k = S2.1 k) (hw : wfW (S3.1 102) K n) (hr : rC (S3.1 102) K n S1 1) : zInv S3 := by
  obtain ⟨-, p1, p2, p3, p4⟩ := p
  have hcell : ∀ k, k < 101 → S3.1 k = S1.1 k := fun k hk => by rw [h5 k hk, p4 k (by omega) (by omega)]
  have hG : Gf S3 = S3.1 102 := by unfold Gf; rw [h4]; rfl
  exact ⟨Or.inr h4, ⟨K, n, by rw [hG]; exact hw, by rw [hG]; exact rC_cells (fun k _ _ => hcell k (by omega)) hr⟩, hs, HC_frame (fun k _ _ => hcell k (by omega)) hc, hm⟩
theorem zInv_no {S S2 : zT} (hI : zInv S) (p : preM S S2) : zInv S2 := zInv_query hI (fun _ _ _ => rfl) p ⟨rfl, rfl, rfl, rfl, fun _ _ => rfl⟩
theorem HM_pre {S S1 S2 : zT} {hs : List (Nat → Int32)} (hm : HM hs S) (h1 : ∀ k j, 101 ≤ k → S1.1 k j = S.1 k j) (p : preM S1 S2) : HM hs S2 := by
  obtain ⟨-, p1, p2, p3, p4⟩ := p
  exact HM_frame (by rw [p3, h1 101 3 (by omega)]) (by rw [p4 103 (by omega) (by omega)]; exact funext fun j => h1 103 j (by omega)) hm
theorem mutC {S S0 : zT} {hs : List (Nat → Int32)} {K n : Nat} (hc : HC hs S) (hw : wfW (Gf S) K n) (hr : rC (Gf S) K n S 1) (h0 : clsFr S S0) : ∃ Sa, fX0_keep 1 S0 = some Sa ∧ HC ((Gf S :: hs).take 8) Sa ∧ ∀ k j, k < 8 ∨ 66 ≤ k → Sa.1 k j = S0.1 k j :=
  c_keep (HC_frame (fun k _ _ => h0.c (by omega)) hc) hw (rC_cells (fun k _ _ => h0.c (by omega)) hr)
theorem mutM {S S1 S2 S2' : zT} {hs : List (Nat → Int32)} (hm : HM hs S) (h1 : ∀ k j, 101 ≤ k → S1.1 k j = S.1 k j) (p : preM S1 S2) (h3 : S2'.1 101 3 = S2.1 101 3) (h4 : S2'.1 103 = S2.1 103) (h5 : S2'.1 102 = S2.1 102) : ∃ Sb, fX8_keep S2' = some Sb ∧ HM ((Gf S :: hs).take 8) Sb := by
  obtain ⟨Sb, eb, hb⟩ := m_keep (HM_frame h3 h4 (HM_pre hm h1 p))
  have hG1 : Gf S1 = Gf S := Gf_eq (h1 101 4 (by omega)) (funext fun j => h1 102 j (by omega))
  refine ⟨Sb, eb, ?_⟩
  rw [h5, p.2.1, hG1] at hb
  exact hb
theorem K_walker : zK_walker zInv := by
  intro a1 a2 S hI
  obtain ⟨hb, ⟨K, n, hw, hr⟩, hs, hc, hm⟩ := id hI
  by_cases q1 : a1 < 2
  · obtain ⟨S2, p⟩ := m_pre hb
    refine ⟨0, S, S2, ?_, ?_, zInv_no hI p⟩
    · simp [fX7_walker, fX7_isWithin, zbi_s, q1]
    · unfold fX8_walker; rw [zlet_s, p.1, zbv_s, if_pos q1]
  by_cases q2 : 8 < a1
  · obtain ⟨S2, p⟩ := m_pre hb
    refine ⟨0, S, S2, ?_, ?_, zInv_no hI p⟩
    · simp [fX7_walker, fX7_isWithin, zbi_s, q1, q2]
    · unfold fX8_walker; rw [zlet_s, p.1, zbv_s, if_neg q1, if_pos q2]
  by_cases q3 : a2 < 0
  · obtain ⟨S2, p⟩ := m_pre hb
    refine ⟨0, S, S2, ?_, ?_, zInv_no hI p⟩
    · simp [fX7_walker, fX7_isWithin, zbi_s, q1, q2, q3]
    · unfold fX8_walker; rw [zlet_s, p.1, zbv_s, if_neg q1, if_neg q2, if_pos q3]
  by_cases q4 : 2 < a2
  · obtain ⟨S2, p⟩ := m_pre hb
    refine ⟨0, S, S2, ?_, ?_, zInv_no hI p⟩
    · simp [fX7_walker, fX7_isWithin, zbi_s, q1, q2, q3, q4]
    · unfold fX8_walker; rw [zlet_s, p.1, zbv_s, if_neg q1, if_neg q2, if_neg q3, if_neg (by rw [Int32.not_le]; exact q4)]
  obtain ⟨k, k1, k2, rfl⟩ := rng 2 8 (by omega) (by omega) q1 q2
  obtain ⟨kd, d1, d2, hkd⟩ := rng 0 2 (by omega) (by omega) q3 q4
  have hd : 0 ≤ a2.toInt ∧ a2.toInt ≤ 2 := by rw [hkd, nI_toInt (by omega)]; omega
  obtain ⟨Sa, ea, ha, fa⟩ := c_keep hc hw hr
  obtain ⟨S1, e1, r1⟩ := c_make (b := 1) (k := k) (kd := a2) k1 k2 Sa
  have fr1 := frX6_makeAnew e1
  have g1 : ∀ k j, 8 ≤ k → S1.1 k j = Sa.1 k j := fun k j h => (fr1 k j (by simp; omega) (by simp)).1
  have h66 : ∀ k j, 66 ≤ k → S1.1 k j = S.1 k j := fun k j h => by rw [g1 k j (by omega), fa k j (by omega)]
  have hb1 : S1.1 101 4 = 0 ∨ S1.1 101 4 = 1 := by rw [h66 101 4 (by omega)]; exact hb
  obtain ⟨S2, p⟩ := m_pre hb1
  have hm2 := HM_pre hm (fun k j h => h66 k j (by omega)) p
  obtain ⟨Sb, eb, hmb⟩ := m_keep hm2
  have frb := frX8_keep eb
  obtain ⟨S3, e3, r3⟩ := m_lays (k := k) (kd := a2) k1 k2 Sb
  have fr3 := frX8_lays e3
  have hG1 : Gf S1 = Gf S := Gf_eq (h66 101 4 (by omega)) (funext fun j => h66 102 j (by omega))
  refine ⟨1, S1, S3, ?_, ?_, zInv_mut (HC_frame (fun k h1 _ => funext fun j => g1 k j h1) ha) p (hs := (Gf S :: hs).take 8) ?_ ?_ (fun k hk => ?_) (K := k) (n := 1) ?_ ?_⟩
  · simp [fX7_walker, fX7_isWithin, zbi_s, zbv_s, q1, q2, q3, q4, ea, e1]
  · unfold fX8_walker
    rw [zlet_s, p.1, zbv_s, if_neg q1, if_neg q2, if_neg q3, if_pos (by rw [← Int32.not_lt]; exact q4), eb, zbv_s, e3, zbv_s]
  · rw [p.2.1, hG1] at hmb
    exact HM_frame (fr3.slot (by simp) (by simp)) (fr3.cell (by simp) (by omega)) hmb
  · rw [fr3.slot (by simp) (by simp), frb.slot (by simp) (by simp)]; exact p.2.2.1
  · rw [fr3.cell (by simp; omega) (by omega), frb.cell (by simp; omega) (by omega)]
  · rw [r3]; exact wf_lay k1 k2 hd _
  · rw [r3]; exact r1 _
