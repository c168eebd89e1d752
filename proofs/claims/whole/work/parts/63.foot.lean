def D_w (w : Nat → Int32) (i t : Nat) : Bool := decide ((zshr (w (23 + t)) (nI i)) &&& 1 = 1)
/-! the model's stances -/
theorem m_isDown {i t : Nat} (ht : t < 25) (S : zT) : fX8_isDown (nI i) (nI t) S = some (if D_w (S.1 102) i t then 1 else 0, S) := by
  unfold fX8_isDown D_w
  rw [show (23 : Int32) + nI t = nI (23 + t) from nI_add 23 t, if_pos (gin (by omega) (by omega)), nI_clamp (by omega)]
  by_cases c : (zshr (S.1 102 (23 + t)) (nI i)) &&& 1 = 1
  · rw [if_pos c, decide_eq_true c]; rfl
  · rw [if_neg c, decide_eq_false c]; rfl
theorem m_ahead {i t n : Nat} {S : zT} (h6 : S.1 102 6 = nI n) (hn1 : 1 ≤ n) (hn : n ≤ 16) (ht : t < n) : fX8_ahead (nI i) (nI t) S = some (nI (ah_d (D_w (S.1 102) i) n t), S) := by
  have key : ∀ (m j f : Nat), j + m = n → m < f → zfix (fun _ _ _ _ => none) fX8_ahead_2 f (nI i) (nI t) (nI j) S = some (nI (j + rl_r (fun j => D_w (S.1 102) i ((t + 2 * n - j - 1) % n)) m j), S) := by
    intro m
    induction m with
    | zero =>
      intro j f h1 h2
      obtain ⟨f, rfl⟩ : ∃ g, f = g + 1 := ⟨f - 1, by omega⟩
      rw [zfix_s]; unfold fX8_ahead_2
      rw [if_pos (by rw [h6]; exact nI_le (by omega) (by omega))]
      rfl
    | succ m ih =>
      intro j f h1 h2
      obtain ⟨f, rfl⟩ : ∃ g, f = g + 1 := ⟨f - 1, by omega⟩
      have e := ih (j + 1) f (by omega) (by omega)
      have hmod : (t + 2 * n - j - 1) % n < n := Nat.mod_lt _ (by omega)
      rw [zfix_s]; unfold fX8_ahead_2
      rw [h6, if_neg (nI_ge (by omega) (by omega)), if_pos (nI_ne0 (by omega) (by omega)), show ((nI t - nI j) - 1) + (2 * nI n) = nI (t + 2 * n - j - 1) by
        rw [show (1 : Int32) = nI 1 from rfl, show (2 : Int32) = nI 2 from rfl, iZ_nI, iZ_nI, iZ_nI, iZ_nI, iZ_nI, iZ_nI, iZ_mul, iZ_sub, iZ_sub, iZ_add]; congr 1; omega, pk_rem (by omega) (by omega) (by omega), m_isDown (by omega), zbi_s]
      unfold rl_r
      by_cases c : D_w (S.1 102) i ((t + 2 * n - j - 1) % n) = true
      · rw [if_pos c, if_neg one_ne, if_pos c, nI_1]
        refine e.trans ?_
        rw [show j + 1 + rl_r (fun j => D_w (S.1 102) i ((t + 2 * n - j - 1) % n)) m (j + 1) = j + (rl_r (fun j => D_w (S.1 102) i ((t + 2 * n - j - 1) % n)) m (j + 1) + 1) by omega]
      · rw [if_neg c, if_pos rfl, if_neg c]; rfl
  have := key n 0 zF (by omega) (by unfold zF; omega)
  rw [Nat.zero_add] at this
  exact this
theorem m_behind {i t n : Nat} {S : zT} (h6 : S.1 102 6 = nI n) (hn1 : 1 ≤ n) (hn : n ≤ 16) (ht : t < n) : fX8_behind (nI i) (nI t) S = some (nI (bh_d (D_w (S.1 102) i) n t), S) := by
  have key : ∀ (m j f : Nat), j + m = n → m < f → zfix (fun _ _ _ _ => none) fX8_behind_2 f (nI i) (nI t) (nI j) S = some (nI (j + rl_r (fun j => D_w (S.1 102) i ((t + j + 1) % n)) m j), S) := by
    intro m
    induction m with
    | zero =>
      intro j f h1 h2
      obtain ⟨f, rfl⟩ : ∃ g, f = g + 1 := ⟨f - 1, by omega⟩
      rw [zfix_s]; unfold fX8_behind_2
      rw [if_pos (by rw [h6]; exact nI_le (by omega) (by omega))]
      rfl
    | succ m ih =>
      intro j f h1 h2
      obtain ⟨f, rfl⟩ : ∃ g, f = g + 1 := ⟨f - 1, by omega⟩
      have e := ih (j + 1) f (by omega) (by omega)
      have hmod : (t + j + 1) % n < n := Nat.mod_lt _ (by omega)
      rw [zfix_s]; unfold fX8_behind_2
      rw [h6, if_neg (nI_ge (by omega) (by omega)), if_pos (nI_ne0 (by omega) (by omega)), show (nI t + nI j) + 1 = nI (t + j + 1) by rw [nI_add, nI_1], pk_rem (by omega) (by omega) (by omega), m_isDown (by omega), zbi_s]
      unfold rl_r
      by_cases c : D_w (S.1 102) i ((t + j + 1) % n) = true
      · rw [if_pos c, if_neg one_ne, if_pos c, nI_1]
        refine e.trans ?_
        rw [show j + 1 + rl_r (fun j => D_w (S.1 102) i ((t + j + 1) % n)) m (j + 1) = j + (rl_r (fun j => D_w (S.1 102) i ((t + j + 1) % n)) m (j + 1) + 1) by omega]
      · rw [if_neg c, if_pos rfl, if_neg c]; rfl
  have := key n 0 zF (by omega) (by unfold zF; omega)
  rw [Nat.zero_add] at this
  exact this
theorem m_stance {i t n : Nat} {S : zT} (h6 : S.1 102 6 = nI n) (hn1 : 1 ≤ n) (hn : n ≤ 16) (ht : t < n) : fX8_stance (nI i) (nI t) S = some (nI (st_d (D_w (S.1 102) i) n t + 1), S) := by
  have a1 := ah_le (D_w (S.1 102) i) n t
  have b1 := bh_le (D_w (S.1 102) i) n t
  unfold fX8_stance st_d
  rw [m_ahead h6 hn1 hn ht, zbi_s, m_behind h6 hn1 hn ht, zbi_s, nI_add, nI_1, h6]
  by_cases c : ah_d (D_w (S.1 102) i) n t + bh_d (D_w (S.1 102) i) n t + 1 ≤ n
  · rw [if_pos (nI_le c (by omega)), if_pos c, m_ahead h6 hn1 hn ht, zbi_s, m_behind h6 hn1 hn ht, zbi_s, nI_add, nI_1]
  · rw [if_neg (nI_ge (by omega) (by omega)), if_neg c]; rfl
/-- how far ahead of its place a foot is, in halves of the speed -/
def ld_d (d : Nat → Bool) (n t : Nat) : Int := (bh_d d n t : Int) - ah_d d n t
theorem ld_bd (d : Nat → Bool) {n t : Nat} (hn : n ≤ 16) : -16 ≤ ld_d d n t ∧ ld_d d n t ≤ 16 := by
  have a1 := ah_le d n t
  have b1 := bh_le d n t
  unfold ld_d; omega
def fy_w (w : Nat → Int32) (n i t : Nat) : Int32 := 2 * w (15 + i) + w 2 * iZ (ld_d (D_w w i) n t)
theorem m_footY {i t n : Nat} {S : zT} (h6 : S.1 102 6 = nI n) (hn1 : 1 ≤ n) (hn : n ≤ 16) (hi : i < 8) (ht : t < n) (hd : D_w (S.1 102) i t = true) : fX8_footY (nI i) (nI t) S = some (fy_w (S.1 102) n i t, S) := by
  have a1 := ah_le (D_w (S.1 102) i) n t
  have b1 := bh_le (D_w (S.1 102) i) n t
  have e22 : ∀ (x3 t0 : Int32), (x3 - 1) - 2 * t0 = iZ (ld_d (D_w (S.1 102) i) n t) → fX8_footY_22 (nI i) x3 t0 S = some (fy_w (S.1 102) n i t, S) := by
    intro x3 t0 he
    unfold fX8_footY_22 fy_w
    rw [show (15 : Int32) + nI i = nI (15 + i) from nI_add 15 i, if_pos (gin (by omega) (by omega)), nI_clamp (by omega), he]
  unfold fX8_footY
  rw [m_stance h6 hn1 hn ht, zbi_s]
  by_cases c : ah_d (D_w (S.1 102) i) n t + bh_d (D_w (S.1 102) i) n t + 1 ≤ n
  · have hst : st_d (D_w (S.1 102) i) n t = ah_d (D_w (S.1 102) i) n t + bh_d (D_w (S.1 102) i) n t := by unfold st_d; rw [if_pos c]
    rw [hst]
    by_cases c1 : ah_d (D_w (S.1 102) i) n t + bh_d (D_w (S.1 102) i) n t = 0
    · rw [c1, if_pos (show nI (0 + 1) = 1 from rfl)]
      refine e22 _ _ ?_
      have : ld_d (D_w (S.1 102) i) n t = 0 := by unfold ld_d; omega
      rw [this]; rfl
    · rw [if_neg (show ¬ nI (ah_d (D_w (S.1 102) i) n t + bh_d (D_w (S.1 102) i) n t + 1) = 1 from fun h => c1 (by
        have := (nI_eq (b := 1) (by omega) (by omega)).mp h
        omega)), m_ahead h6 hn1 hn ht, zbi_s]
      refine e22 _ _ ?_
      rw [show (1 : Int32) = nI 1 from rfl, show (2 : Int32) = nI 2 from rfl, iZ_nI, iZ_nI, iZ_nI, iZ_nI, iZ_mul, iZ_sub, iZ_sub]
      congr 1
      unfold ld_d; omega
  · have hst : st_d (D_w (S.1 102) i) n t = 0 := by unfold st_d; rw [if_neg c]
    rw [hst, if_pos (show nI (0 + 1) = 1 from rfl)]
    refine e22 _ _ ?_
    have hall := all_down (by omega) ht hd (by omega)
    have : ld_d (D_w (S.1 102) i) n t = 0 := by
      unfold ld_d
      rw [ah_full (by omega) hall, bh_full (by omega) hall]; omega
    rw [this]; rfl
/-! the class's stances -/
theorem c_isDown {w : Nat → Int32} {K n : Nat} {S : zT} {b i t : Nat} (hn : n ≤ 16) (hr : rC w K n S b) (ht : t < n) : fX6_isDown b (nI i) (nI t) S = some (if D_w w i t then 1 else 0, S) := by
  unfold fX6_isDown D_w
  rw [at_in (by omega) (by omega), zbi_s, show S.1 (b + 5 + 1) t = w (23 + t) from hr.2.2.2 t ht]
  by_cases c : (zshr (w (23 + t)) (nI i)) &&& 1 = 1
  · rw [if_pos c, decide_eq_true c]; rfl
  · rw [if_neg c, decide_eq_false c]; rfl
theorem c_tickAfter {w : Nat → Int32} {K n : Nat} {S : zT} {b t : Nat} (hw6 : w 6 = nI n) (hn : n ≤ 16) (hr : rC w K n S b) (ht : t < n) : fX6_tickAfter b (nI t) S = some (nI ((t + 1) % n), S) := by
  unfold fX6_tickAfter
  rw [hr.1.2.2.2.2.2.2, hw6, nI_1]
  by_cases c : n ≤ t + 1
  · rw [if_pos (nI_le c (by omega)), show t + 1 = n by omega, Nat.mod_self]; rfl
  · rw [if_neg (nI_ge (by omega) (by omega)), Nat.mod_eq_of_lt (by omega)]
theorem c_tickAhead {w : Nat → Int32} {K n : Nat} {S : zT} {b t : Nat} (hw6 : w 6 = nI n) (hn : n ≤ 16) (hr : rC w K n S b) (ht : t < n) : fX6_tickAhead b (nI t) S = some (nI ((t + n - 1) % n), S) := by
  unfold fX6_tickAhead
  rw [hr.1.2.2.2.2.2.2, hw6]
  by_cases c : t = 0
  · subst c
    rw [if_pos (show nI 0 ≤ 0 by decide), show nI n - 1 = nI (n - 1) from pk_sub (b := 1) (by omega), Nat.zero_add, Nat.mod_eq_of_lt (by omega)]
  · rw [if_neg (nI_nle (by omega) (by omega)), show nI t - 1 = nI (t - 1) from pk_sub (b := 1) (by omega), show t + n - 1 = t - 1 + n by omega, Nat.add_mod_right, Nat.mod_eq_of_lt (by omega)]
