theorem lt_2 {x : Nat} (h : 2 < x) (hx : x < 2 ^ 31) : (2 : Int32) < nI x := show nI 2 < nI x from nI_lt h hx
theorem nlt_2 {x : Nat} (h : x ≤ 2) : ¬ (2 : Int32) < nI x := show ¬ nI 2 < nI x from nI_nlt h (by omega)
theorem all_down2 {d : Nat → Bool} {n t : Nat} (hn : 0 < n) (ht : t < n) (hd : d t = true) (h : n ≤ ah_d d n t + bh_d d n t + 1) : ∀ s, s < n → d s = true := by
  intro s hs
  obtain ⟨k, hk⟩ : ∃ k, k = if t ≤ s then s - t else s + n - t := ⟨_, rfl⟩
  have k1 : k < n := by rw [hk]; split <;> omega
  have k2 : (t + k) % n = s := by
    rw [hk]; split
    · rw [show t + (s - t) = s by omega, Nat.mod_eq_of_lt hs]
    · rw [show t + (s + n - t) = s + n by omega, Nat.add_mod_right, Nat.mod_eq_of_lt hs]
  by_cases c0 : k = 0
  · rw [c0, Nat.add_zero, Nat.mod_eq_of_lt ht] at k2; rw [← k2]; exact hd
  by_cases c1 : k ≤ bh_d d n t
  · have := bh_all (d := d) (n := n) (t := t) (j := k - 1) (by omega)
    rw [show t + (k - 1) + 1 = t + k by omega, k2] at this; exact this
  · have := ah_all (d := d) (n := n) (t := t) (j := n - k - 1) (by omega)
    rw [show t + 2 * n - (n - k - 1) - 1 = t + k + n by omega, Nat.add_mod_right, k2] at this; exact this
def E_w (w : Nat → Int32) (t : Nat) : Bool := decide (w (23 + t) = 0)
def shp (d : Nat → Bool) (n t : Nat) : Prop := (¬ ∀ s, s < n → d s = true) ∧ ah_d d n t + bh_d d n t + 1 ≤ 2
theorem c_sh83 {w : Nat → Int32} {K n t : Nat} {S : zT} (hw6 : w 6 = nI n) (hn1 : 1 ≤ n) (hn : n ≤ 16) (hr : rC w K n S 68) : ∀ (m k fu row : Nat), 1 + k + m = n → m < fu → zfix (fun _ _ _ _ => none) fX5_isShortHop_83 fu (nI row) (nI ((t + k + 1) % n)) (nI (1 + k)) S = fX5_isShortHop_127 (nI (row + rl_r (fun j => E_w w ((t + j + 1) % n)) m k)) S := by
  intro m
  induction m with
  | zero =>
    intro k fu row h1 h2
    obtain ⟨fu, rfl⟩ : ∃ g, fu = g + 1 := ⟨fu - 1, by omega⟩
    rw [zfix_s]; unfold fX5_isShortHop_83
    rw [if_pos (by rw [hr.1.2.2.2.2.2.2, hw6]; exact nI_le (by omega) (by omega))]
    rfl
  | succ m ih =>
    intro k fu row h1 h2
    obtain ⟨fu, rfl⟩ : ∃ g, fu = g + 1 := ⟨fu - 1, by omega⟩
    have hmod : (t + k + 1) % n < n := Nat.mod_lt _ (by omega)
    rw [zfix_s]; unfold fX5_isShortHop_83
    rw [if_neg (by rw [hr.1.2.2.2.2.2.2, hw6]; exact nI_ge (by omega) (by omega)), at_in (by omega) (by omega), zbi_s, show S.1 (68 + 5 + 1) ((t + k + 1) % n) = w (23 + (t + k + 1) % n) from hr.2.2.2 _ hmod]
    unfold rl_r
    by_cases c : w (23 + (t + k + 1) % n) = 0
    · rw [if_pos c, if_pos (show E_w w ((t + k + 1) % n) = true from decide_eq_true c), c_tickAfter hw6 hn hr hmod, zbi_s, nI_1, nI_1, Nat.mod_add_mod, show 1 + k + 1 = 1 + (k + 1) by omega]
      refine (ih (k + 1) fu (row + 1) (by omega) (by omega)).trans ?_
      rw [show row + 1 + rl_r (fun j => E_w w ((t + j + 1) % n)) m (k + 1) = row + (rl_r (fun j => E_w w ((t + j + 1) % n)) m (k + 1) + 1) by omega]
    · rw [if_neg c, if_neg (show ¬ E_w w ((t + k + 1) % n) = true by unfold E_w; simpa using c)]
      rfl
theorem c_sh14 {w : Nat → Int32} {K n t : Nat} {S : zT} (hw6 : w 6 = nI n) (hn1 : 1 ≤ n) (hn : n ≤ 16) (ht : t < n) (hr : rC w K n S 68) : ∀ (m k fu : Nat), 1 + k + m = n → m < fu → zfix (fun _ _ _ _ _ => none) fX5_isShortHop_14 fu (nI t) (nI (1 + k)) (nI ((t + 2 * n - k - 1) % n)) (nI (1 + k)) S = fX5_isShortHop_58 (nI t) (nI (1 + k + rl_r (fun j => E_w w ((t + 2 * n - j - 1) % n)) m k)) S := by
  intro m
  induction m with
  | zero =>
    intro k fu h1 h2
    obtain ⟨fu, rfl⟩ : ∃ g, fu = g + 1 := ⟨fu - 1, by omega⟩
    rw [zfix_s]; unfold fX5_isShortHop_14
    rw [if_pos (by rw [hr.1.2.2.2.2.2.2, hw6]; exact nI_le (by omega) (by omega))]
    rfl
  | succ m ih =>
    intro k fu h1 h2
    obtain ⟨fu, rfl⟩ : ∃ g, fu = g + 1 := ⟨fu - 1, by omega⟩
    have hmod : (t + 2 * n - k - 1) % n < n := Nat.mod_lt _ (by omega)
    rw [zfix_s]; unfold fX5_isShortHop_14
    rw [if_neg (by rw [hr.1.2.2.2.2.2.2, hw6]; exact nI_ge (by omega) (by omega)), at_in (by omega) (by omega), zbi_s, show S.1 (68 + 5 + 1) ((t + 2 * n - k - 1) % n) = w (23 + (t + 2 * n - k - 1) % n) from hr.2.2.2 _ hmod]
    unfold rl_r
    by_cases c : w (23 + (t + 2 * n - k - 1) % n) = 0
    · rw [if_pos c, if_pos (show E_w w ((t + 2 * n - k - 1) % n) = true from decide_eq_true c), c_tickAhead hw6 hn hr hmod, zbi_s, nI_1, show ((t + 2 * n - k - 1) % n + n - 1) % n = (t + 2 * n - (k + 1) - 1) % n by
        rw [show (t + 2 * n - k - 1) % n + n - 1 = (t + 2 * n - k - 1) % n + (n - 1) by omega, Nat.mod_add_mod, show t + 2 * n - k - 1 + (n - 1) = t + 2 * n - (k + 1) - 1 + n by omega, Nat.add_mod_right], show 1 + k + 1 = 1 + (k + 1) by omega]
      refine (ih (k + 1) fu (by omega) (by omega)).trans ?_
      rw [show 1 + (k + 1) + rl_r (fun j => E_w w ((t + 2 * n - j - 1) % n)) m (k + 1) = 1 + k + (rl_r (fun j => E_w w ((t + 2 * n - j - 1) % n)) m (k + 1) + 1) by omega]
    · rw [if_neg c, if_neg (show ¬ E_w w ((t + 2 * n - k - 1) % n) = true by unfold E_w; simpa using c)]
      rfl
theorem rl_short {P : Nat → Bool} {n : Nat} (h : rl_r P n 0 + 1 < n) : rl_r P (n - 1) 0 = rl_r P n 0 := rl_char P (fun j hj => rl_all P n 0 j hj) (by omega) (fun _ => rl_stop P n 0 (by omega))
theorem c_hop {w : Nat → Int32} {K n t : Nat} {S : zT} (hw6 : w 6 = nI n) (hn1 : 1 ≤ n) (hn : n ≤ 16) (ht : t < n) (hr : rC w K n S 68) (h0 : w (23 + t) = 0) : ∃ r, fX5_isShortHop (nI t) S = some (r, S) ∧ tf r (shp (E_w w) n t) := by
  have e1 := c_sh14 hw6 hn1 hn ht hr (n - 1) 0 zF (by omega) (by unfold zF; omega)
  have e0 : fX5_isShortHop (nI t) S = fX5_isShortHop_58 (nI t) (nI (1 + 0 + rl_r (fun j => E_w w ((t + 2 * n - j - 1) % n)) (n - 1) 0)) S := by
    unfold fX5_isShortHop
    rw [c_tickAhead hw6 hn hr ht, zbi_s]
    rw [show (t + n - 1) % n = (t + 2 * n - 0 - 1) % n by rw [show t + 2 * n - 0 - 1 = t + n - 1 + n by omega, Nat.add_mod_right]]
    exact e1
  rw [e0]
  unfold fX5_isShortHop_58
  rw [hr.1.2.2.2.2.2.2, hw6]
  have hd : E_w w t = true := decide_eq_true h0
  by_cases ca : ∀ s, s < n → E_w w s = true
  · have : rl_r (fun j => E_w w ((t + 2 * n - j - 1) % n)) (n - 1) 0 = n - 1 := rl_char _ (fun j _ => ca _ (Nat.mod_lt _ (by omega))) (Nat.le_refl _) (fun h => by omega)
    rw [this, if_neg (nI_nlt (by omega) (by omega))]
    exact ⟨0, rfl, tf_f (fun h => h.1 ca)⟩
  · have hlt : ah_d (E_w w) n t + bh_d (E_w w) n t + 1 < n := by
      rcases Nat.lt_or_ge (ah_d (E_w w) n t + bh_d (E_w w) n t + 1) n with h | h
      · exact h
      · exact absurd (all_down2 (by omega) ht hd h) ca
    have a1 : rl_r (fun j => E_w w ((t + 2 * n - j - 1) % n)) (n - 1) 0 = ah_d (E_w w) n t := rl_short (by unfold ah_d at hlt; omega)
    have b1 : rl_r (fun j => E_w w ((t + j + 1) % n)) (n - 1) 0 = bh_d (E_w w) n t := rl_short (by unfold bh_d at hlt; omega)
    rw [a1, if_pos (nI_lt (by omega) (by omega)), c_tickAfter hw6 hn hr ht, zbi_s]
    have e2 := c_sh83 (t := t) hw6 hn1 hn hr (n - 1) 0 zF (1 + 0 + ah_d (E_w w) n t) (by omega) (by unfold zF; omega)
    rw [b1] at e2
    have e3 : zfix (fun _ _ _ _ => none) fX5_isShortHop_83 zF (nI (1 + 0 + ah_d (E_w w) n t)) (nI ((t + 1) % n)) 1 S = fX5_isShortHop_127 (nI (1 + 0 + ah_d (E_w w) n t + bh_d (E_w w) n t)) S := e2
    rw [e3]
    unfold fX5_isShortHop_127
    by_cases c : 2 < 1 + 0 + ah_d (E_w w) n t + bh_d (E_w w) n t
    · rw [if_pos (lt_2 c (by omega))]
      exact ⟨0, rfl, tf_f (fun h => by have := h.2; omega)⟩
    · rw [if_neg (nlt_2 (by omega))]
      exact ⟨1, rfl, tf_t ⟨ca, by omega⟩⟩
theorem m_fl44 {w : Nat → Int32} {n t j : Nat} {S : zT} (hw : S.1 102 = w) (hw6 : w 6 = nI n) (hn1 : 1 ≤ n) (hn : n ≤ 16) (ht : t < n) : ∀ (m k fu : Nat), k + m = n → m < fu → zfix (fun _ _ _ _ => none) fX8_isFlying_44 fu (nI t) (nI j) (nI k) S = fX8_isFlying_96 (nI j) (nI (k + rl_r (fun j => E_w w ((t + 2 * n - j - 1) % n)) m k)) S := by
  intro m
  induction m with
  | zero =>
    intro k fu h1 h2
    obtain ⟨fu, rfl⟩ : ∃ g, fu = g + 1 := ⟨fu - 1, by omega⟩
    rw [zfix_s]; unfold fX8_isFlying_44
    rw [if_pos (by rw [hw, hw6]; exact nI_le (by omega) (by omega))]
    rfl
  | succ m ih =>
    intro k fu h1 h2
    obtain ⟨fu, rfl⟩ : ∃ g, fu = g + 1 := ⟨fu - 1, by omega⟩
    have hmod : (t + 2 * n - k - 1) % n < n := Nat.mod_lt _ (by omega)
    rw [zfix_s]; unfold fX8_isFlying_44
    rw [hw, hw6, if_neg (nI_ge (by omega) (by omega)), if_pos (nI_ne0 (by omega) (by omega)), show ((nI t - nI k) - 1) + (2 * nI n) = nI (t + 2 * n - k - 1) by
        rw [show (1 : Int32) = nI 1 from rfl, show (2 : Int32) = nI 2 from rfl, iZ_nI, iZ_nI, iZ_nI, iZ_nI, iZ_nI, iZ_nI, iZ_mul, iZ_sub, iZ_sub, iZ_add]; congr 1; omega, pk_rem (by omega) (by omega) (by omega), show (23 : Int32) + nI ((t + 2 * n - k - 1) % n) = nI (23 + (t + 2 * n - k - 1) % n) from nI_add 23 _, if_pos (gin (by omega) (by omega)), nI_clamp (by omega)]
    unfold rl_r
    by_cases c : w (23 + (t + 2 * n - k - 1) % n) = 0
    · rw [if_pos c, if_pos (show E_w w ((t + 2 * n - k - 1) % n) = true from decide_eq_true c), nI_1]
      refine (ih (k + 1) fu (by omega) (by omega)).trans ?_
      rw [show k + 1 + rl_r (fun j => E_w w ((t + 2 * n - j - 1) % n)) m (k + 1) = k + (rl_r (fun j => E_w w ((t + 2 * n - j - 1) % n)) m (k + 1) + 1) by omega]
    · rw [if_neg c, if_neg (show ¬ E_w w ((t + 2 * n - k - 1) % n) = true by unfold E_w; simpa using c)]
      rfl
theorem m_fl2 {w : Nat → Int32} {n t : Nat} {S : zT} (hw : S.1 102 = w) (hw6 : w 6 = nI n) (hn1 : 1 ≤ n) (hn : n ≤ 16) (ht : t < n) : ∀ (m k fu : Nat), k + m = n → m < fu → zfix (fun _ _ _ => none) fX8_isFlying_2 fu (nI t) (nI k) S = fX8_isFlying_42 (nI t) (nI (k + rl_r (fun j => E_w w ((t + j) % n)) m k)) S := by
  intro m
  induction m with
  | zero =>
    intro k fu h1 h2
    obtain ⟨fu, rfl⟩ : ∃ g, fu = g + 1 := ⟨fu - 1, by omega⟩
    rw [zfix_s]; unfold fX8_isFlying_2
    rw [if_pos (by rw [hw, hw6]; exact nI_le (by omega) (by omega))]
    rfl
  | succ m ih =>
    intro k fu h1 h2
    obtain ⟨fu, rfl⟩ : ∃ g, fu = g + 1 := ⟨fu - 1, by omega⟩
    have hmod : (t + k) % n < n := Nat.mod_lt _ (by omega)
    rw [zfix_s]; unfold fX8_isFlying_2
    rw [hw, hw6, if_neg (nI_ge (by omega) (by omega)), if_pos (nI_ne0 (by omega) (by omega)), nI_add, pk_rem (by omega) (by omega) (by omega), show (23 : Int32) + nI ((t + k) % n) = nI (23 + (t + k) % n) from nI_add 23 _, if_pos (gin (by omega) (by omega)), nI_clamp (by omega)]
    unfold rl_r
    by_cases c : w (23 + (t + k) % n) = 0
    · rw [if_pos c, if_pos (show E_w w ((t + k) % n) = true from decide_eq_true c), nI_1]
      refine (ih (k + 1) fu (by omega) (by omega)).trans ?_
      rw [show k + 1 + rl_r (fun j => E_w w ((t + j) % n)) m (k + 1) = k + (rl_r (fun j => E_w w ((t + j) % n)) m (k + 1) + 1) by omega]
    · rw [if_neg c, if_neg (show ¬ E_w w ((t + k) % n) = true by unfold E_w; simpa using c)]
      rfl
theorem m_hop {w : Nat → Int32} {n t : Nat} {S : zT} (hw : S.1 102 = w) (hw6 : w 6 = nI n) (hn1 : 1 ≤ n) (hn : n ≤ 16) (ht : t < n) (h0 : w (23 + t) = 0) : ∃ r, fX8_isFlying (nI t) S = some (r, S) ∧ tf r (shp (E_w w) n t) := by
  have e1 := m_fl2 hw hw6 hn1 hn ht n 0 zF (by omega) (by unfold zF; omega)
  have e2 := m_fl44 (j := 0 + rl_r (fun j => E_w w ((t + j) % n)) n 0) hw hw6 hn1 hn ht n 0 zF (by omega) (by unfold zF; omega)
  have e0 : fX8_isFlying (nI t) S = fX8_isFlying_96 (nI (0 + rl_r (fun j => E_w w ((t + j) % n)) n 0)) (nI (0 + ah_d (E_w w) n t)) S := e1.trans e2
  rw [e0, Nat.zero_add, Nat.zero_add]
  unfold fX8_isFlying_96
  rw [hw, hw6, nI_add]
  have hd : E_w w t = true := decide_eq_true h0
  have al := ah_le (E_w w) n t
  have rl := rl_le (fun j => E_w w ((t + j) % n)) n 0
  by_cases ca : ∀ s, s < n → E_w w s = true
  · have : rl_r (fun j => E_w w ((t + j) % n)) n 0 = n := rl_char _ (fun j _ => ca _ (Nat.mod_lt _ (by omega))) (Nat.le_refl _) (fun h => by omega)
    rw [this]
    by_cases c : 2 < ah_d (E_w w) n t + n
    · rw [if_pos (lt_2 c (by omega))]
      exact ⟨0, rfl, tf_f (fun h => h.1 ca)⟩
    · rw [if_neg (nlt_2 (by omega)), if_pos (nI_le (by omega) (by omega))]
      exact ⟨0, rfl, tf_f (fun h => h.1 ca)⟩
  · have hlt : ah_d (E_w w) n t + bh_d (E_w w) n t + 1 < n := by
      rcases Nat.lt_or_ge (ah_d (E_w w) n t + bh_d (E_w w) n t + 1) n with h | h
      · exact h
      · exact absurd (all_down2 (by omega) ht hd h) ca
    have b1 : rl_r (fun j => E_w w ((t + j) % n)) n 0 = bh_d (E_w w) n t + 1 := rl_char _ (fun j hj => by
        by_cases c : j = 0
        · subst c; simp only [Nat.add_zero]; rw [Nat.mod_eq_of_lt ht]; exact hd
        · have := bh_all (d := E_w w) (n := n) (t := t) (j := j - 1) (by omega)
          rw [show t + (j - 1) + 1 = t + (0 + j) by omega] at this; exact this) (by omega) (fun _ => by
        have := bh_stop (d := E_w w) (n := n) (t := t) (by omega)
        rw [show t + bh_d (E_w w) n t + 1 = t + (0 + (bh_d (E_w w) n t + 1)) by omega] at this; exact this)
    rw [b1]
    by_cases c : 2 < ah_d (E_w w) n t + (bh_d (E_w w) n t + 1)
    · rw [if_pos (lt_2 c (by omega))]
      exact ⟨0, rfl, tf_f (fun h => by have := h.2; omega)⟩
    · rw [if_neg (nlt_2 (by omega)), if_neg (nI_ge (by omega) (by omega))]
      exact ⟨1, rfl, tf_t ⟨ca, by omega⟩⟩
/-! pairs -/
def pz : Nat → Int32 → Int32 → Int32 → Option Int32
  | 0, _, _, _ => none
  | m + 1, k, x, i => if k ≤ i + 1 then some 1 else if (zshr x i) &&& 1 = (zshr x (i + 1)) &&& 1 then pz m k x (i + 2) else some 0
theorem m_pz {k x : Int32} {S : zT} (h : S.1 102 0 = k) : ∀ (m fu : Nat) (i r : Int32), m ≤ fu → pz m k x i = some r → zfix (fun _ _ _ => none) fX8_isPairs_2 fu x i S = some (r, S) := by
  intro m
  induction m with
  | zero => intro fu i r h1 h2; cases h2
  | succ m ih =>
    intro fu i r h1 h2
    obtain ⟨fu, rfl⟩ : ∃ g, fu = g + 1 := ⟨fu - 1, by omega⟩
    rw [zfix_s]; unfold fX8_isPairs_2
    unfold pz at h2
    rw [h]
    by_cases c1 : k ≤ i + 1
    · rw [if_pos c1] at h2 ⊢; cases h2; rfl
    · rw [if_neg c1] at h2 ⊢
      by_cases c2 : (zshr x i) &&& 1 = (zshr x (i + 1)) &&& 1
      · rw [if_pos c2] at h2 ⊢; exact ih fu _ r (by omega) h2
      · rw [if_neg c2] at h2 ⊢; cases h2; rfl
def prB (K s : Nat) : Bool := decide ((nI s &&& (85 &&& (zshr (nI (2 ^ K - 1)) 1))) = ((zshr (nI s) 1) &&& (85 &&& (zshr (nI (2 ^ K - 1)) 1))))
theorem pz_fin : ∀ K, K < 9 → ∀ s, s < 256 → pz 6 (nI K) (nI s) 0 = some (if prB K s then 1 else 0) := by decide +kernel
theorem m_pairs {K s : Nat} {S : zT} (hK : K ≤ 8) (hs : s < 256) (h : S.1 102 0 = nI K) : fX8_isPairs (nI s) S = some (if prB K s then 1 else 0, S) := m_pz h 6 zF 0 _ (by unfold zF; omega) (pz_fin K (by omega) s hs)
theorem fs_fin : ∀ K, K < 9 → zshl 1 (nI K) - 1 = nI (2 ^ K - 1) := by decide +kernel
theorem c_full {w : Nat → Int32} {K n b : Nat} {S : zT} (hK : K ≤ 8) (h0 : w 0 = nI K) (hr : rC w K n S b) : fX6_fullSet b S = some (nI (2 ^ K - 1), S) := by
  unfold fX6_fullSet
  rw [hr.1.1, h0, fs_fin K (by omega)]
theorem c_fits {w : Nat → Int32} {K n s : Nat} {S : zT} (hK : K ≤ 8) (h0 : w 0 = nI K) (hr : rC w K n S 68) : fX5_fitsKind (nI s) S = some (if w 1 = 2 ∧ prB K s = false then 0 else 1, S) := by
  unfold fX5_fitsKind
  rw [c_full hK h0 hr, zbi_s, hr.1.2.1]
  by_cases c : w 1 = 2
  · rw [if_pos c]
    by_cases c2 : (nI s &&& (85 &&& (zshr (nI (2 ^ K - 1)) 1))) = ((zshr (nI s) 1) &&& (85 &&& (zshr (nI (2 ^ K - 1)) 1)))
    · rw [if_pos c2, if_neg (by rintro ⟨-, h⟩; unfold prB at h; simp [c2] at h)]
    · rw [if_neg c2, if_pos ⟨c, decide_eq_false c2⟩]
  · rw [if_neg c, if_neg (fun h => c h.1)]
