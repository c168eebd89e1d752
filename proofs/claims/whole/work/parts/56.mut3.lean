/-! the leg at a place -/
def lgF (w : Nat → Int32) (x y : Int32) : Nat → Nat → Int32
  | 0, _ => -1
  | d + 1, i => if w (7 + i) = x then (if w (15 + i) = y then nI i else lgF w x y d (i + 1)) else lgF w x y d (i + 1)
def lg_w (w : Nat → Int32) (K : Nat) (x y : Int32) : Int32 := lgF w x y K 0
theorem c_legAt {w : Nat → Int32} {K n : Nat} {S : zT} {b : Nat} (hw : wfW w K n) (hr : rC w K n S b) (x y : Int32) : fX6_legAt b x y S = some (lg_w w K x y, S) := by
  have hK := hw.1.2.2
  have key : ∀ (d i f : Nat), i + d = K → d < f → zfix (fun _ _ _ _ => none) (fX6_legAt_2 b) f x y (nI i) S = some (lgF w x y d i, S) := by
    intro d
    induction d with
    | zero =>
      intro i f h1 h2
      obtain ⟨f, rfl⟩ : ∃ g, f = g + 1 := ⟨f - 1, by omega⟩
      rw [zfix_s]; unfold fX6_legAt_2
      rw [if_pos (by rw [hr.1.1, hw.1.1]; exact nI_le (by omega) (by omega))]
      rfl
    | succ d ih =>
      intro i f h1 h2
      obtain ⟨f, rfl⟩ : ∃ g, f = g + 1 := ⟨f - 1, by omega⟩
      have e := ih (i + 1) f (by omega) (by omega)
      rw [zfix_s]; unfold fX6_legAt_2
      rw [if_neg (by rw [hr.1.1, hw.1.1]; exact nI_ge (by omega) (by omega)), at_in (by omega) (by omega), zbi_s, hr.2.1 i (by omega)]
      unfold lgF fX6_legAt_36
      by_cases q1 : w (7 + i) = x
      · rw [if_pos q1, if_pos q1, at_in (by omega) (by omega), zbi_s, hr.2.2.1 i (by omega)]
        by_cases q2 : w (15 + i) = y
        · rw [if_pos q2, if_pos q2]
        · rw [if_neg q2, if_neg q2, nI_1]; exact e
      · rw [if_neg q1, if_neg q1, nI_1]; exact e
  exact key K 0 zF (by omega) (by unfold zF; omega)
theorem m_legAt {K n : Nat} {S : zT} (hw : wfW (S.1 102) K n) (x y : Int32) : fX8_legAt x y S = some (lg_w (S.1 102) K x y, S) := by
  have hK := hw.1.2.2
  have key : ∀ (d i f : Nat), i + d = K → d < f → zfix (fun _ _ _ _ => none) fX8_legAt_2 f x y (nI i) S = some (lgF (S.1 102) x y d i, S) := by
    intro d
    induction d with
    | zero =>
      intro i f h1 h2
      obtain ⟨f, rfl⟩ : ∃ g, f = g + 1 := ⟨f - 1, by omega⟩
      rw [zfix_s]; unfold fX8_legAt_2
      rw [if_pos (by rw [hw.1.1]; exact nI_le (by omega) (by omega))]
      rfl
    | succ d ih =>
      intro i f h1 h2
      obtain ⟨f, rfl⟩ : ∃ g, f = g + 1 := ⟨f - 1, by omega⟩
      have e := ih (i + 1) f (by omega) (by omega)
      have e7 : (7 : Int32) + nI i = nI (7 + i) := nI_add 7 i
      have e15 : (15 : Int32) + nI i = nI (15 + i) := nI_add 15 i
      rw [zfix_s]; unfold fX8_legAt_2
      rw [if_neg (by rw [hw.1.1]; exact nI_ge (by omega) (by omega)), e7, if_pos (gin (by omega) (by omega)), nI_clamp (by omega)]
      unfold lgF fX8_legAt_40
      by_cases q1 : S.1 102 (7 + i) = x
      · rw [if_pos q1, if_pos q1, e15, if_pos (gin (by omega) (by omega)), nI_clamp (by omega)]
        by_cases q2 : S.1 102 (15 + i) = y
        · rw [if_pos q2, if_pos q2]
        · rw [if_neg q2, if_neg q2, nI_1]; exact e
      · rw [if_neg q1, if_neg q1, nI_1]; exact e
  exact key K 0 zF (by omega) (by unfold zF; omega)
def tw_w (w : Nat → Int32) (K i : Nat) : Int32 := lg_w w K (-(w (7 + i))) (w (15 + i))
theorem c_twin {w : Nat → Int32} {K n : Nat} {S : zT} {b : Nat} (hw : wfW w K n) (hr : rC w K n S b) {i : Nat} (hi : i < K) : fX6_twinOf b (nI i) S = some (tw_w w K i, S) := by
  have hK := hw.1.2.2
  unfold fX6_twinOf
  rw [at_in (by omega) (by omega), zbi_s, at_in (by omega) (by omega), zbi_s, hr.2.1 i hi, hr.2.2.1 i hi, c_legAt hw hr, zbi_s]
  rfl
theorem m_twin {K n : Nat} {S : zT} (hw : wfW (S.1 102) K n) {i : Nat} (hi : i < K) : fX8_twin (nI i) S = some (tw_w (S.1 102) K i, S) := by
  have hK := hw.1.2.2
  have e7 : (7 : Int32) + nI i = nI (7 + i) := nI_add 7 i
  have e15 : (15 : Int32) + nI i = nI (15 + i) := nI_add 15 i
  unfold fX8_twin
  rw [e7, e15, if_pos (gin (by omega) (by omega)), if_pos (gin (by omega) (by omega)), nI_clamp (by omega), nI_clamp (by omega), m_legAt hw, zbi_s]
  rfl
def mF_w (w : Nat → Int32) (K : Nat) : Nat → Nat → Bool
  | 0, _ => true
  | d + 1, i => if tw_w w K i = -1 then false else mF_w w K d (i + 1)
def mi_w (w : Nat → Int32) (K : Nat) : Bool := mF_w w K K 0 && decide (w 4 = 0)
theorem c_mirrored {w : Nat → Int32} {K n : Nat} {S : zT} {b : Nat} (hw : wfW w K n) (hr : rC w K n S b) : fX6_isMirrored b S = some (if mi_w w K then 1 else 0, S) := by
  have hK := hw.1.2.2
  have key : ∀ (d i f : Nat), i + d = K → d < f → zfix (fun _ _ => none) (fX6_isMirrored_2 b) f (nI i) S = some (if mF_w w K d i && decide (w 4 = 0) then 1 else 0, S) := by
    intro d
    induction d with
    | zero =>
      intro i f h1 h2
      obtain ⟨f, rfl⟩ : ∃ g, f = g + 1 := ⟨f - 1, by omega⟩
      rw [zfix_s]; unfold fX6_isMirrored_2
      rw [if_pos (by rw [hr.1.1, hw.1.1]; exact nI_le (by omega) (by omega)), hr.1.2.2.1]
      by_cases q : w 4 = 0 <;> simp [q, mF_w]
    | succ d ih =>
      intro i f h1 h2
      obtain ⟨f, rfl⟩ : ∃ g, f = g + 1 := ⟨f - 1, by omega⟩
      have e := ih (i + 1) f (by omega) (by omega)
      rw [zfix_s]; unfold fX6_isMirrored_2
      rw [if_neg (by rw [hr.1.1, hw.1.1]; exact nI_ge (by omega) (by omega)), c_twin hw hr (by omega), zbi_s]
      unfold mF_w
      by_cases q1 : tw_w w K i = -1
      · rw [if_pos q1, if_pos q1]; rfl
      · rw [if_neg q1, if_neg q1, nI_1]; exact e
  exact key K 0 zF (by omega) (by unfold zF; omega)
theorem m_mirrored {K n : Nat} {S : zT} (hw : wfW (S.1 102) K n) : fX8_isMirrored S = some (if mi_w (S.1 102) K then 1 else 0, S) := by
  have hK := hw.1.2.2
  have key : ∀ (d i f : Nat), i + d = K → d < f → zfix (fun _ _ => none) fX8_isMirrored_13 f (nI i) S = some (if mF_w (S.1 102) K d i then 1 else 0, S) := by
    intro d
    induction d with
    | zero =>
      intro i f h1 h2
      obtain ⟨f, rfl⟩ : ∃ g, f = g + 1 := ⟨f - 1, by omega⟩
      rw [zfix_s]; unfold fX8_isMirrored_13
      rw [if_pos (by rw [hw.1.1]; exact nI_le (by omega) (by omega))]
      rfl
    | succ d ih =>
      intro i f h1 h2
      obtain ⟨f, rfl⟩ : ∃ g, f = g + 1 := ⟨f - 1, by omega⟩
      have e := ih (i + 1) f (by omega) (by omega)
      rw [zfix_s]; unfold fX8_isMirrored_13
      rw [if_neg (by rw [hw.1.1]; exact nI_ge (by omega) (by omega)), m_twin hw (by omega), zbi_s]
      unfold mF_w
      by_cases q1 : tw_w (S.1 102) K i = -1
      · rw [if_pos q1, if_pos q1]; rfl
      · rw [if_neg q1, if_neg q1, nI_1]; exact e
  unfold fX8_isMirrored mi_w
  by_cases q : S.1 102 4 = 0
  · rw [if_pos q]
    refine (key K 0 zF (by omega) (by unfold zF; omega)).trans ?_
    simp [q]
  · rw [if_neg q]; simp [q]
/-! about, down -/
def abL_w (w : Nat → Int32) (K j : Nat) : Int32 := if j < 10 ∨ 39 < j then -100 else if K ≤ j % 10 then -100 else if j < 20 then w (7 + j % 10) else if j < 30 then w (15 + j % 10) else if tw_w w K (j % 10) = -1 then -100 else tw_w w K (j % 10)
def ab_w (a : Int32) (w : Nat → Int32) (K : Nat) : Int32 := if a = 0 then w 0 else if a = 1 then w 1 else if a = 2 then w 6 else if a = 3 then w 2 else if a = 4 then w 3 else if a = 5 then w 4 else if a = 6 then w 5 else if a = 7 then (if mi_w w K then 1 else 0) else abL_w w K a.toNatClampNeg
theorem clsFr_rf (S : zT) : clsFr S S := fun _ _ _ => rfl
theorem modFr_rf (S : zT) : modFr S S := ⟨rfl, rfl, rfl, rfl, fun _ _ => rfl⟩
theorem nI_lo {a : Int32} (h : a < nI 10) : a.toNatClampNeg < 10 := by
  rw [Int32.lt_iff_toInt_lt, nI_toInt (by omega)] at h
  rw [← Int32.toNat_toInt]; omega
theorem c_about {w : Nat → Int32} {K n : Nat} {S : zT} (hw : wfW w K n) (hr : rC w K n S 1) (a : Int32) : fX7_about a S = some (ab_w a w K, S) := by
  have hK := hw.1.2.2
  obtain ⟨a0, a1, a2, a3, a4, a5, a6⟩ := hr.1
  unfold fX7_about ab_w
  rw [a0, a1, a2, a3, a4, a5, a6, c_mirrored hw hr, zbi_s]
  by_cases q0 : a = 0
  · rw [if_pos q0, if_pos q0]
  rw [if_neg q0, if_neg q0]
  by_cases q1 : a = 1
  · rw [if_pos q1, if_pos q1]
  rw [if_neg q1, if_neg q1]
  by_cases q2 : a = 2
  · rw [if_pos q2, if_pos q2]
  rw [if_neg q2, if_neg q2]
  by_cases q3 : a = 3
  · rw [if_pos q3, if_pos q3]
  rw [if_neg q3, if_neg q3]
  by_cases q4 : a = 4
  · rw [if_pos q4, if_pos q4]
  rw [if_neg q4, if_neg q4]
  by_cases q5 : a = 5
  · rw [if_pos q5, if_pos q5]
  rw [if_neg q5, if_neg q5]
  by_cases q6 : a = 6
  · rw [if_pos q6, if_pos q6]
  rw [if_neg q6, if_neg q6]
  by_cases q7 : a = 7
  · rw [if_pos q7, if_pos q7]
    cases mi_w w K <;> rfl
  rw [if_neg q7, if_neg q7]
  unfold fX7_aboutLeg fX7_isWithin abL_w
  by_cases r1 : a < 10
  · rw [if_pos r1, zbi_s, if_pos rfl, zbi_s, if_pos (Or.inl (nI_lo r1))]
  rw [if_neg r1]
  by_cases r2 : 39 < a
  · rw [if_pos r2, zbi_s, if_pos rfl, zbi_s, if_pos]
    right
    have r3 : nI 39 < a := r2
    rw [Int32.lt_iff_toInt_lt, nI_toInt (by omega)] at r3
    rw [← Int32.toNat_toInt]; omega
  rw [if_neg r2, zbi_s, if_neg one_ne]
  obtain ⟨j, j1, j2, rfl⟩ := rng 10 39 (by omega) (by omega) r1 r2
  have e10 : nI j - nI j / 10 * 10 = nI (j % 10) := pk_rem (d := 10) (by omega) (by omega) (by omega)
  rw [nI_clamp (by omega), if_neg (by omega), e10, c_hasLeg hr, zbi_s, if_neg (nI_pos (by omega)), hw.1.1]
  by_cases s1 : K ≤ j % 10
  · rw [if_pos (nI_le s1 (by omega)), if_pos rfl, zbi_s, if_pos s1]
  · rw [if_neg (nI_ge (by omega) (by omega)), if_neg one_ne, if_neg s1]
    by_cases s2 : j < 20
    · rw [if_neg (show ¬ (20 : Int32) ≤ nI j from nI_ge (b := 20) s2 (by omega)), if_pos s2, at_in (by omega) (by omega), zbi_s, zbi_s, hr.2.1 _ (by omega)]
    · rw [if_pos (show (20 : Int32) ≤ nI j from nI_le (a := 20) (by omega) (by omega)), if_neg s2]
      by_cases s3 : j < 30
      · rw [if_neg (show ¬ (30 : Int32) ≤ nI j from nI_ge (b := 30) s3 (by omega)), if_pos s3, at_in (by omega) (by omega), zbi_s, zbi_s, hr.2.2.1 _ (by omega)]
      · rw [if_pos (show (30 : Int32) ≤ nI j from nI_le (a := 30) (by omega) (by omega)), if_neg s3, c_twin hw hr (by omega), zbi_s]
        by_cases s4 : tw_w w K (j % 10) = -1
        · rw [if_pos s4, if_pos s4, zbi_s]
        · rw [if_neg s4, if_neg s4, zbi_s]
theorem m_aboutL {K n : Nat} {S : zT} (hw : wfW (S.1 102) K n) (a : Int32) : (if a < 10 then fX8_about_143 a S else zbi (fX8_isLeg (a - 10) S) fun r_12 S_11 =>
  (if r_12 = 0 then fX8_about_143 a S_11 else if ¬ (((7 + a) - 10) < 0 ∨ 48 ≤ ((7 + a) - 10).toNatClampNeg) then some ((S_11.1 102 ((7 + a) - 10).toNatClampNeg), S_11) else none)) = some (abL_w (S.1 102) K a.toNatClampNeg, S) := by
  have hK := hw.1.2.2
  have hK2 := hw.1.2.1
  have lt20 : ∀ {b c : Nat}, b < c → c < 2147483648 → nI b < nI c := fun h1 h2 => nI_lt h1 (by omega)
  by_cases r1 : a < 10
  · rw [if_pos r1]
    unfold abL_w
    rw [if_pos (Or.inl (nI_lo r1))]
    have r1' : a.toInt < 10 := by rw [Int32.lt_iff_toInt_lt] at r1; exact r1
    unfold fX8_about_143 fX8_about_173
    rw [if_pos (show a < 20 by rw [Int32.lt_iff_toInt_lt]; show a.toInt < 20; omega), if_pos (show a < 30 by rw [Int32.lt_iff_toInt_lt]; show a.toInt < 30; omega)]
  · rw [if_neg r1]
    obtain ⟨j, j1, rfl⟩ : ∃ j : Nat, j < 2147483648 ∧ a = nI j := by
      obtain ⟨j, h1, h2⟩ := nI_of (x := a) (fun h => r1 (by
        rw [Int32.lt_iff_toInt_lt] at h ⊢
        have h' : a.toInt < 0 := h
        show a.toInt < 10
        omega))
      exact ⟨j, by omega, h2⟩
    have j2 : 10 ≤ j := by
      rcases Nat.lt_or_ge j 10 with h | h
      · exact absurd (nI_lt h (by omega)) r1
      · exact h
    rw [nI_clamp (by omega), show nI j - 10 = nI (j - 10) from pk_sub j2, m_isLeg, zbi_s, if_neg (nI_pos (by omega)), hw.1.1]
    have t173 : fX8_about_173 (nI j) S = some (if j < 30 then -100 else if K ≤ j - 30 then -100 else if tw_w (S.1 102) K (j - 30) = -1 then -100 else tw_w (S.1 102) K (j - 30), S) := by
      unfold fX8_about_173
      by_cases s3 : j < 30
      · rw [if_pos (show nI j < 30 from lt20 (c := 30) s3 (by omega)), if_pos s3]
      · rw [if_neg (show ¬ nI j < 30 from nI_nlt (b := 30) (by omega) (by omega)), if_neg s3, show nI j - 30 = nI (j - 30) from pk_sub (b := 30) (by omega), m_isLeg, zbi_s, if_neg (nI_pos (by omega)), hw.1.1]
        by_cases s4 : K ≤ j - 30
        · rw [if_pos (nI_le s4 (by omega)), if_pos rfl, if_pos s4]
        · rw [if_neg (nI_ge (by omega) (by omega)), if_neg one_ne, if_neg s4, m_twin hw (by omega), zbi_s]
          by_cases s5 : tw_w (S.1 102) K (j - 30) = -1
          · rw [if_pos s5, if_pos s5]
          · rw [if_neg s5, if_neg s5, m_twin hw (by omega), zbi_s]
    have t143 : fX8_about_143 (nI j) S = some (if j < 20 then -100 else if j - 20 < K then S.1 102 (15 + (j - 20)) else if j < 30 then -100 else if K ≤ j - 30 then -100 else if tw_w (S.1 102) K (j - 30) = -1 then -100 else tw_w (S.1 102) K (j - 30), S) := by
      unfold fX8_about_143
      rw [t173]
      by_cases s3 : j < 20
      · rw [if_pos (show nI j < 20 from lt20 (c := 20) s3 (by omega)), if_pos s3, if_pos (show j < 30 by omega)]
      · rw [if_neg (show ¬ nI j < 20 from nI_nlt (b := 20) (by omega) (by omega)), if_neg s3, show nI j - 20 = nI (j - 20) from pk_sub (b := 20) (by omega), m_isLeg, zbi_s, if_neg (nI_pos (by omega)), hw.1.1]
        by_cases s4 : j - 20 < K
        · rw [if_neg (nI_ge s4 (by omega)), if_neg one_ne, if_pos s4, show (15 : Int32) + nI j - 20 = nI (15 + (j - 20)) by rw [show (15 : Int32) + nI j = nI (15 + j) from nI_add 15 j, show nI (15 + j) - 20 = nI (15 + j - 20) from pk_sub (b := 20) (by omega), show 15 + j - 20 = 15 + (j - 20) by omega], if_pos (gin (by omega) (by omega)), nI_clamp (by omega)]
        · rw [if_pos (nI_le (by omega) (by omega)), if_pos rfl, if_neg s4, t173]
    unfold abL_w
    by_cases s1 : j - 10 < K
    · rw [if_neg (nI_ge s1 (by omega)), if_neg one_ne, show (7 : Int32) + nI j - 10 = nI (7 + (j - 10)) by rw [show (7 : Int32) + nI j = nI (7 + j) from nI_add 7 j, show nI (7 + j) - 10 = nI (7 + j - 10) from pk_sub (b := 10) (by omega), show 7 + j - 10 = 7 + (j - 10) by omega], if_pos (gin (by omega) (by omega)), nI_clamp (by omega), if_neg (by omega), if_neg (by omega), if_pos (by omega), show 7 + j % 10 = 7 + (j - 10) by omega]
    · rw [if_pos (nI_le (by omega) (by omega)), if_pos rfl, t143]
      by_cases s2 : j < 20
      · rw [if_pos s2, if_neg (by omega), if_pos (by omega)]
      · rw [if_neg s2]
        by_cases s3 : j - 20 < K
        · rw [if_pos s3, if_neg (by omega), if_neg (by omega), if_neg (by omega), if_pos (by omega), show 15 + j % 10 = 15 + (j - 20) by omega]
        · rw [if_neg s3]
          by_cases s4 : j < 30
          · rw [if_pos s4, if_neg (by omega), if_pos (by omega)]
          · rw [if_neg s4]
            by_cases s5 : K ≤ j - 30
            · rw [if_pos s5]
              by_cases s6 : 39 < j
              · rw [if_pos (Or.inr s6)]
              · rw [if_neg (by omega), if_pos (by omega)]
            · rw [if_neg s5, if_neg (show ¬ (j < 10 ∨ 39 < j) by omega), if_neg (show ¬ K ≤ j % 10 by omega), if_neg s2, if_neg s4, show j % 10 = j - 30 by omega]
theorem K_about : zK_about zInv := by
  intro a
  refine zO_query (fun w K n => ab_w a w K) (fun S w K n hw hr => ⟨S, c_about hw hr a, clsFr_rf S⟩) (fun S => rfl) (fun S K n hw hb => ⟨S, ?_, modFr_rf S⟩)
  rw [m_aboutL hw, m_mirrored hw, zbi_s]
  unfold ab_w
  by_cases q0 : a = 0
  · rw [if_pos q0, if_pos q0]
  rw [if_neg q0, if_neg q0]
  by_cases q1 : a = 1
  · rw [if_pos q1, if_pos q1]
  rw [if_neg q1, if_neg q1]
  by_cases q2 : a = 2
  · rw [if_pos q2, if_pos q2]
  rw [if_neg q2, if_neg q2]
  by_cases q3 : a = 3
  · rw [if_pos q3, if_pos q3]
  rw [if_neg q3, if_neg q3]
  by_cases q4 : a = 4
  · rw [if_pos q4, if_pos q4]
  rw [if_neg q4, if_neg q4]
  by_cases q5 : a = 5
  · rw [if_pos q5, if_pos q5]
  rw [if_neg q5, if_neg q5]
  by_cases q6 : a = 6
  · rw [if_pos q6, if_pos q6]
  rw [if_neg q6, if_neg q6]
  by_cases q7 : a = 7
  · rw [if_pos q7, if_pos q7]
    cases mi_w (S.1 102) K <;> rfl
  rw [if_neg q7, if_neg q7]
theorem K_down : zK_down zInv := by
  intro a
  refine zO_query (fun w K n => if a < 0 then -1 else if w 6 ≤ a then -1 else w (23 + a.toNatClampNeg)) (fun S w K n hw hr => ⟨S, ?_, clsFr_rf S⟩) (fun S => rfl) (fun S K n hw hb => ⟨S, ?_, modFr_rf S⟩)
  · have hn := hw.2.1.2.2
    unfold fX7_down
    rw [c_hasTick hr, zbi_s]
    by_cases q1 : a < 0
    · rw [if_pos q1, if_pos q1, if_pos rfl]
    rw [if_neg q1, if_neg q1]
    by_cases q2 : w 6 ≤ a
    · rw [if_pos q2, if_pos q2, if_pos rfl]
    rw [if_neg q2, if_neg q2, if_neg one_ne]
    obtain ⟨t, t1, rfl⟩ := in_of (K := n) (by omega) q1 (by rw [← hw.2.1.1]; exact q2)
    rw [at_in (by omega) (by omega), zbi_s, nI_clamp (by omega), hr.2.2.2 t t1]
  · have hn := hw.2.1.2.2
    rw [m_isTick, zbi_s]
    by_cases q1 : a < 0
    · rw [if_pos q1, if_pos q1, if_pos rfl]
    rw [if_neg q1, if_neg q1]
    by_cases q2 : S.1 102 6 ≤ a
    · rw [if_pos q2, if_pos q2, if_pos rfl]
    rw [if_neg q2, if_neg q2, if_neg one_ne]
    obtain ⟨t, t1, rfl⟩ := in_of (K := n) (by omega) q1 (by rw [← hw.2.1.1]; exact q2)
    rw [show (23 : Int32) + nI t = nI (23 + t) from nI_add 23 t, if_pos (gin (by omega) (by omega)), nI_clamp (by omega), nI_clamp (by omega)]
