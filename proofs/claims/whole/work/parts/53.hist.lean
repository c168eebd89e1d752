theorem zwk_ring {nx : Nat} (h : nx < 8) : 10 + 7 * nx = 10 ∨ 10 + 7 * nx = 17 ∨ 10 + 7 * nx = 24 ∨ 10 + 7 * nx = 31 ∨ 10 + 7 * nx = 38 ∨ 10 + 7 * nx = 45 ∨ 10 + 7 * nx = 52 ∨ 10 + 7 * nx = 59 := by omega
theorem c_stateAt {nx : Nat} (h : nx < 8) (S : zT) : fX0_stateAt (nI nx) S = some (some (10 + 7 * nx), S) := by
  unfold fX0_stateAt
  rw [if_neg (nI_pos (by omega)), if_neg (nI_ge h (by omega)), if_pos (gin h (by omega)), nI_clamp (by omega)]
theorem zbw_w {R : Type} {nx : Nat} (h : nx < 8) (S : zT) (f : zT → Option R) (g : Nat → zT → Option R) : zbw (some (some (10 + 7 * nx), S)) f g = g (10 + 7 * nx) S := by
  show (if _ then _ else _) = _
  rw [if_pos (zwk_ring h)]
theorem take8_len {α : Type} (w : α) (hs : List α) : ((w :: hs).take 8).length = min (hs.length + 1) 8 := by
  rw [List.length_take, List.length_cons]; omega
theorem take8_get {α : Type} (w : α) (hs : List α) (j : Nat) (v : α) (h : ((w :: hs).take 8)[j]? = some v) : (j = 0 ∧ v = w) ∨ (0 < j ∧ j < 8 ∧ hs[j - 1]? = some v) := by
  rw [List.getElem?_take] at h
  by_cases hj : j < 8
  · simp only [hj, if_true] at h
    match j, h with
    | 0, h => exact Or.inl ⟨rfl, by simpa using h.symm⟩
    | j + 1, h => exact Or.inr ⟨by omega, hj, by simpa using h⟩
  · simp only [hj, if_false] at h
    cases h
theorem c_keep {S : zT} {hs : List (Nat → Int32)} {w : Nat → Int32} {K n : Nat} (hc : HC hs S) (hw : wfW w K n) (hr : rC w K n S 1) : ∃ S', fX0_keep 1 S = some S' ∧ HC ((w :: hs).take 8) S' ∧ ∀ k j, k < 8 ∨ 66 ≤ k → S'.1 k j = S.1 k j := by
  obtain ⟨nx, h1, h2, h3, h4, h5⟩ := hc
  have hK := hw.1.2.2
  have hn := hw.2.1.2.2
  obtain ⟨S5, e5, c0, c1, c2, c3⟩ := wkcopy (b := 10 + 7 * nx) (b1 := 1) (by omega) S
  have r5 := frX6_copyFrom e5
  have k5 : ∀ k j, k < 10 + 7 * nx ∨ 10 + 7 * nx + 7 ≤ k → S5.1 k j = S.1 k j := fun k j h => (r5 k j (by simp; omega) (by simp)).1
  have h81 : S5.1 8 1 = nI nx := by rw [k5 8 1 (by omega)]; exact h2
  have h82 : S5.1 8 2 = nI hs.length := by rw [k5 8 2 (by omega)]; exact h3
  have k41 : ∀ t0 : Int32, fX0_keep_41 1 t0 S5 = some (zsi (zsi S5 8 1 t0) 8 2 (nI (min (hs.length + 1) 8))) := by
    intro t0
    unfold fX0_keep_41
    simp only [zlet_s]
    have : (zsi S5 8 1 t0).1 8 2 = nI hs.length := by rw [zsi_app]; simp [h82]
    rw [this, nI_1]
    by_cases hl : hs.length = 8
    · rw [if_pos (show (8 : Int32) < nI (hs.length + 1) from nI_lt (a := 8) (by omega) (by omega)), hl]; rfl
    · rw [if_neg (show ¬ (8 : Int32) < nI (hs.length + 1) from nI_nlt (b := hs.length + 1) (a := 8) (by omega) (by omega)), Nat.min_eq_left (by omega)]
  have hex : ∃ nx' : Nat, nx' < 8 ∧ (nx' + 7) % 8 = nx ∧ fX0_keep 1 S = some (zsi (zsi S5 8 1 (nI nx')) 8 2 (nI (min (hs.length + 1) 8))) := by
    unfold fX0_keep
    rw [h2, c_stateAt h1, zbw_w h1, e5, zbv_s, h81, nI_1]
    by_cases h7 : nx = 7
    · refine ⟨0, by omega, by omega, ?_⟩
      rw [if_pos (show (8 : Int32) ≤ nI (nx + 1) from nI_le (a := 8) (by omega) (by omega))]
      exact k41 0
    · refine ⟨nx + 1, by omega, by omega, ?_⟩
      rw [if_neg (show ¬ (8 : Int32) ≤ nI (nx + 1) from nI_ge (b := 8) (by omega) (by omega))]
      exact k41 _
  obtain ⟨nx', g1, g2, g3⟩ := hex
  have hcell : ∀ k, k ≠ 8 → (zsi (zsi S5 8 1 (nI nx')) 8 2 (nI (min (hs.length + 1) 8))).1 k = S5.1 k := fun k hk => by rw [zsi_n _ _ hk, zsi_n _ _ hk]
  refine ⟨_, g3, ⟨nx', g1, ?_, ?_, by rw [take8_len]; omega, fun j v hj => ?_⟩, fun k j hk => ?_⟩
  · rw [zsi_app, zsi_app]; simp
  · rw [zsi_app, take8_len]; simp
  · rcases take8_get w hs j v hj with ⟨rfl, rfl⟩ | ⟨j1, j2, j3⟩
    · refine ⟨K, n, hw, ?_⟩
      rw [show (nx' + 7 - 0) % 8 = nx by omega]
      refine rC_state (b := 1) (S := S) hK hn (fun j hj => ?_) (fun j hj => ?_) (fun j hj => ?_) (fun j hj => ?_) hr
      · rw [hcell _ (by omega)]; exact c0 j hj
      · rw [hcell _ (by omega)]; exact c1 j hj
      · rw [hcell _ (by omega)]; exact c2 j hj
      · rw [hcell _ (by omega)]; exact c3 j hj
    · obtain ⟨K', n', i1, i2⟩ := h5 (j - 1) v j3
      have hl : j - 1 < hs.length := (List.getElem?_eq_some_iff.mp j3).1
      refine ⟨K', n', i1, ?_⟩
      have e1 : (nx' + 7 - j) % 8 = (nx + 7 - (j - 1)) % 8 := by omega
      rw [e1]
      have hne : (nx + 7 - (j - 1)) % 8 ≠ nx := by omega
      refine rC_cells (fun k k1 k2 => ?_) i2
      rw [hcell k (by omega)]
      funext i
      exact k5 k i (by omega)
  · by_cases hk8 : k = 8
    · omega
    · rw [hcell k hk8]; exact k5 k j (by omega)
/-! the model's -/
theorem m_keep47 {c0 : Nat} (hc : c0 ≤ 7) : ∀ (d i f : Nat) (S : zT), i + d = 48 → d < f → S.1 101 3 = nI c0 → ∃ S', zfix (fun _ _ => none) fX8_keep_47 f (nI i) S = some S' ∧ S'.1 101 3 = nI (c0 + 1) ∧ ∀ m, S'.1 103 m = if 48 * c0 + i ≤ m ∧ m < 48 * c0 + 48 then S.1 102 (m - 48 * c0) else S.1 103 m := by
  intro d
  induction d with
  | zero =>
    intro i f S h1 h2 h3
    obtain ⟨f, rfl⟩ : ∃ g, f = g + 1 := ⟨f - 1, by omega⟩
    refine ⟨zsi S 101 3 (nI (c0 + 1)), ?_, ?_, fun m => ?_⟩
    · rw [zfix_s]; unfold fX8_keep_47
      rw [if_pos (show (48 : Int32) ≤ nI i from nI_le (a := 48) (by omega) (by omega)), zlet_s, h3, nI_1]
    · rw [zsi_app]; simp
    · rw [zsi_n _ _ (by omega), if_neg (by omega)]
  | succ d ih =>
    intro i f S h1 h2 h3
    obtain ⟨f, rfl⟩ : ∃ g, f = g + 1 := ⟨f - 1, by omega⟩
    have e1 : (nI c0 * 48 + nI i) = nI (c0 * 48 + i) := by rw [show (48 : Int32) = nI 48 from rfl, pk_mul, nI_add]
    obtain ⟨S', a1, a2, a3⟩ := ih (i + 1) f (zsi S 103 (c0 * 48 + i) (S.1 102 i)) (by omega) (by omega) (by rw [zsi_app]; simp [h3])
    refine ⟨S', ?_, a2, fun m => ?_⟩
    · rw [zfix_s]; unfold fX8_keep_47
      rw [if_neg (show ¬ (48 : Int32) ≤ nI i from nI_ge (b := 48) (by omega) (by omega)), if_pos (gin (by omega) (by omega)), h3, e1, if_pos (gin (by omega) (by omega)), nI_clamp (by omega), nI_clamp (by omega), zlet_s, nI_1]
      exact a1
    · rw [a3 m, zsi_n _ _ (by omega), zsi_app]
      by_cases q1 : 48 * c0 + (i + 1) ≤ m ∧ m < 48 * c0 + 48
      · rw [if_pos q1, if_pos (by omega)]
      · rw [if_neg q1]
        by_cases q2 : m = c0 * 48 + i
        · subst q2
          rw [if_pos ⟨rfl, rfl⟩, if_pos (by omega), show c0 * 48 + i - 48 * c0 = i by omega]
        · rw [if_neg (fun h => q2 h.2), if_neg (by omega)]
theorem m_keep45 {c0 : Nat} (hc : c0 ≤ 7) (S : zT) (h : S.1 101 3 = nI c0) : ∃ S', fX8_keep_45 S = some S' ∧ S'.1 101 3 = nI (c0 + 1) ∧ ∀ m, S'.1 103 m = if 48 * c0 ≤ m ∧ m < 48 * c0 + 48 then S.1 102 (m - 48 * c0) else S.1 103 m := by
  obtain ⟨S', a1, a2, a3⟩ := m_keep47 hc 48 0 zF S (by omega) (by unfold zF; omega) h
  exact ⟨S', a1, a2, a3⟩
theorem m_keep11 : ∀ (d i f : Nat) (S : zT), i + d = 336 → d < f → ∃ S', zfix (fun _ _ => none) (fX8_keep_11 fX8_keep_45) f (nI i) S = some S' ∧ S'.1 101 3 = 8 ∧ ∀ m, S'.1 103 m = if 336 ≤ m ∧ m < 384 then S.1 102 (m - 336) else if i ≤ m ∧ m < 336 then S.1 103 (m + 48) else S.1 103 m := by
  intro d
  induction d with
  | zero =>
    intro i f S h1 h2
    obtain ⟨f, rfl⟩ : ∃ g, f = g + 1 := ⟨f - 1, by omega⟩
    obtain ⟨S', a1, a2, a3⟩ := m_keep45 (c0 := 7) (by omega) (zsi S 101 3 7) (by rw [zsi_app]; simp; rfl)
    refine ⟨S', ?_, a2, fun m => ?_⟩
    · rw [zfix_s]; unfold fX8_keep_11
      rw [if_pos (show (336 : Int32) ≤ nI i from nI_le (a := 336) (by omega) (by omega)), zlet_s]
      exact a1
    · rw [a3 m, zsi_n _ _ (by omega), zsi_n _ _ (by omega)]
      simp only [show 48 * 7 = 336 from rfl, show 336 + 48 = 384 from rfl]
      split
      · rfl
      · rw [if_neg (by omega)]
  | succ d ih =>
    intro i f S h1 h2
    obtain ⟨f, rfl⟩ : ∃ g, f = g + 1 := ⟨f - 1, by omega⟩
    have e1 : nI i + 48 = nI (i + 48) := nI_add i 48
    obtain ⟨S', a1, a2, a3⟩ := ih (i + 1) f (zsi S 103 i (S.1 103 (i + 48))) (by omega) (by omega)
    refine ⟨S', ?_, a2, fun m => ?_⟩
    · rw [zfix_s]; unfold fX8_keep_11
      rw [if_neg (show ¬ (336 : Int32) ≤ nI i from nI_ge (b := 336) (by omega) (by omega)), e1, if_pos (gin (by omega) (by omega)), if_pos (gin (by omega) (by omega)), nI_clamp (by omega), nI_clamp (by omega), zlet_s, nI_1]
      exact a1
    · rw [a3 m, zsi_n _ _ (by omega), zsi_k]
      unfold upd
      split
      · rfl
      · by_cases q1 : i + 1 ≤ m ∧ m < 336
        · rw [if_pos q1, if_pos (show i ≤ m ∧ m < 336 by omega), if_neg (show ¬ m + 48 = i by omega)]
        · rw [if_neg q1]
          by_cases q2 : m = i
          · rw [if_pos q2, if_pos (show i ≤ m ∧ m < 336 by omega), q2]
          · rw [if_neg q2, if_neg (show ¬ (i ≤ m ∧ m < 336) by omega)]
theorem m_keep {S : zT} {hs : List (Nat → Int32)} (hm : HM hs S) : ∃ S', fX8_keep S = some S' ∧ HM ((S.1 102 :: hs).take 8) S' := by
  obtain ⟨h1, h2, h3⟩ := hm
  unfold fX8_keep
  by_cases hl : hs.length = 8
  · obtain ⟨S', a1, a2, a3⟩ := m_keep11 336 0 zF S (by omega) (by unfold zF; omega)
    refine ⟨S', ?_, ?_, by rw [take8_len]; omega, fun j w hj i hi => ?_⟩
    · rw [h1, hl, if_pos (show nI 8 = 8 from rfl)]; exact a1
    · rw [a2, take8_len, hl]; rfl
    · rw [take8_len, hl]
      rcases take8_get _ hs j w hj with ⟨rfl, rfl⟩ | ⟨j1, j2, j3⟩
      · rw [a3, if_pos (by omega), show 48 * (min (8 + 1) 8 - 1 - 0) + i - 336 = i by omega]
      · rw [a3, if_neg (by omega), if_pos (by omega)]
        have := h3 (j - 1) w j3 i hi
        rw [hl] at this
        rw [← this, show 48 * (min (8 + 1) 8 - 1 - j) + i + 48 = 48 * (8 - 1 - (j - 1)) + i by omega]
  · obtain ⟨S', a1, a2, a3⟩ := m_keep45 (c0 := hs.length) (by omega) S h1
    refine ⟨S', ?_, ?_, by rw [take8_len]; omega, fun j w hj i hi => ?_⟩
    · rw [h1, if_neg (show ¬ nI hs.length = 8 from fun h => hl ((nI_eq (b := 8) (by omega) (by omega)).mp h))]; exact a1
    · rw [a2, take8_len, Nat.min_eq_left (by omega)]
    · rw [take8_len, Nat.min_eq_left (by omega)]
      rcases take8_get _ hs j w hj with ⟨rfl, rfl⟩ | ⟨j1, j2, j3⟩
      · rw [a3, if_pos (by omega), show 48 * (hs.length + 1 - 1 - 0) + i - 48 * hs.length = i by omega]
      · have hlt : j - 1 < hs.length := (List.getElem?_eq_some_iff.mp j3).1
        rw [a3, if_neg (by omega)]
        have := h3 (j - 1) w j3 i hi
        rw [← this, show 48 * (hs.length + 1 - 1 - j) + i = 48 * (hs.length - 1 - (j - 1)) + i by omega]
