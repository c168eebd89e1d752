/-! the first state of a walker, in both -/
def iX (i : Nat) : Int32 := if i % 2 = 0 then -3 else 3
def iY (i : Nat) : Int32 := nI (4 * (i / 2))
theorem ini1 : ∀ i, i < 8 → ((nI i - nI i / 2 * 2 = 0) ↔ i % 2 = 0) := by decide +kernel
theorem ini2 : ∀ i, i < 8 → ((nI i &&& 1 = 0) ↔ i % 2 = 0) := by decide +kernel
theorem ini3 : ∀ i, i < 8 → 4 * (nI i / 2) = iY i := by decide +kernel
theorem ini4 : ∀ i, i < 8 → 4 * (zshr (nI i) 1) = iY i := by decide +kernel
theorem ini5 : ∀ k, k < 9 → 2 ≤ k → 2 * (((nI k + 1) / 2) - 1) = nI (2 * ((k + 1) / 2 - 1)) := by decide +kernel
theorem ini6 : ∀ k, k < 9 → (zshl 1 (nI k)) - 1 = nI (2 ^ k - 1) := by decide +kernel
theorem ini7 : ∀ k, k < 9 → 2 ≤ k → 2 * ((zshr (nI k + 1) 1) - 1) = nI (2 * ((k + 1) / 2 - 1)) := by decide +kernel
def wIn (k : Nat) (kd : Int32) (g : Nat → Int32) : Nat → Int32 := fun m => if m = 0 then nI k else if m = 1 then kd else if m = 3 then 10 else if m = 5 then nI (2 * ((k + 1) / 2 - 1)) else if m = 6 then 1 else if m = 23 then nI (2 ^ k - 1) else if 7 ≤ m ∧ m < 7 + k then iX (m - 7) else if 15 ≤ m ∧ m < 15 + k then iY (m - 15) else g m
def layF (k : Nat) (kd : Int32) (g : Nat → Int32) : Nat → Int32 := wIn k kd (fun m => if m < 48 then 0 else g m)
theorem gin {m N : Nat} (h : m < N) (hN : N < 2147483648) : ¬ (nI m < 0 ∨ N ≤ (nI m).toNatClampNeg) := nI_in h (by omega)
theorem m_lays2 {k : Nat} (h8 : k ≤ 8) : ∀ (d i f : Nat) (S : zT), i + d = k → d < f → ∃ S', zfix (fun _ _ _ => none) fX8_lays_68 f (nI k) (nI i) S = some S' ∧ ∀ m, S'.1 102 m = if m = 23 then nI (2 ^ k - 1) else if 7 + i ≤ m ∧ m < 7 + k then iX (m - 7) else if 15 + i ≤ m ∧ m < 15 + k then iY (m - 15) else S.1 102 m := by
  intro d
  induction d with
  | zero =>
    intro i f S h1 h2
    obtain ⟨f, rfl⟩ : ∃ g, f = g + 1 := ⟨f - 1, by omega⟩
    refine ⟨zsi S 102 23 (nI (2 ^ k - 1)), ?_, fun m => ?_⟩
    · rw [zfix_s]; unfold fX8_lays_68
      rw [if_pos (nI_le (by omega) (by omega)), zlet_s, ini6 k (by omega)]
    · rw [zsi_app]
      by_cases h : m = 23
      · simp [h]
      · simp only [h, and_false, if_false]
        rw [if_neg (by omega), if_neg (by omega)]
  | succ d ih =>
    intro i f S h1 h2
    obtain ⟨f, rfl⟩ : ∃ g, f = g + 1 := ⟨f - 1, by omega⟩
    have e7 : (7 : Int32) + nI i = nI (7 + i) := nI_add 7 i
    have e15 : (15 : Int32) + nI i = nI (15 + i) := nI_add 15 i
    obtain ⟨S', e1, e2⟩ := ih (i + 1) f (zsi (zsi S 102 (7 + i) (iX i)) 102 (15 + i) (iY i)) (by omega) (by omega)
    have body : ∀ v, v = iX i → fX8_lays_93 (zfix (fun _ _ _ => none) fX8_lays_68 f) (nI k) (nI i) v (nI (7 + i)) S = some S' := by
      intro v hv
      unfold fX8_lays_93
      rw [if_pos (gin (by omega) (by omega)), nI_clamp (by omega), zlet_s, e15, if_pos (gin (by omega) (by omega)), nI_clamp (by omega), zlet_s, ini3 i (by omega), nI_1, hv]
      exact e1
    refine ⟨S', ?_, fun m => ?_⟩
    · rw [zfix_s]; unfold fX8_lays_68
      rw [if_neg (nI_ge (by omega) (by omega)), e7]
      by_cases hp : i % 2 = 0
      · rw [if_pos ((ini1 i (by omega)).mpr hp)]; exact body _ (by simp [iX, hp])
      · rw [if_neg (fun h => hp ((ini1 i (by omega)).mp h))]; exact body _ (by simp [iX, hp])
    · rw [e2 m, zsi_app, zsi_app]
      by_cases h : m = 23
      · simp [h]
      · simp only [h, if_false]
        by_cases a1 : 7 + (i + 1) ≤ m ∧ m < 7 + k
        · rw [if_pos a1, if_pos (by omega)]
        · rw [if_neg a1]
          by_cases a2 : 15 + (i + 1) ≤ m ∧ m < 15 + k
          · rw [if_pos a2, if_neg (by omega), if_pos (by omega)]
          · rw [if_neg a2]
            by_cases a3 : m = 15 + i
            · rw [if_pos ⟨trivial, a3⟩, if_neg (by omega), if_pos (by omega), a3]; simp
            · rw [if_neg (fun h => a3 h.2)]
              by_cases a4 : m = 7 + i
              · rw [if_pos ⟨trivial, a4⟩, if_pos (by omega), a4]; simp
              · rw [if_neg (fun h => a4 h.2), if_neg (by omega), if_neg (by omega)]
theorem m_lays {k : Nat} {kd : Int32} (h2 : 2 ≤ k) (h8 : k ≤ 8) (S : zT) : ∃ S', fX8_lays (nI k) kd S = some S' ∧ S'.1 102 = layF k kd (S.1 102) := by
  have key : ∀ (d j f : Nat) (S : zT), j + d = 48 → d < f → ∃ S', zfix (fun _ _ _ _ => none) fX8_lays_2 f (nI k) kd (nI j) S = some S' ∧ ∀ m, S'.1 102 m = wIn k kd (fun m => if j ≤ m ∧ m < 48 then 0 else S.1 102 m) m := by
    intro d
    induction d with
    | zero =>
      intro j f S h1 hf
      obtain ⟨f, rfl⟩ : ∃ g, f = g + 1 := ⟨f - 1, by omega⟩
      obtain ⟨S', e1, e2⟩ := m_lays2 h8 k 0 zF (zsi (zsi (zsi (zsi (zsi S 102 0 (nI k)) 102 1 kd) 102 3 10) 102 5 (nI (2 * ((k + 1) / 2 - 1)))) 102 6 1) (by omega) (by unfold zF; omega)
      refine ⟨S', ?_, fun m => ?_⟩
      · rw [zfix_s]; unfold fX8_lays_2
        rw [if_pos (show (48 : Int32) ≤ nI j from nI_le (a := 48) (by omega) (by omega))]
        simp only [zlet_s]
        rw [ini5 k (by omega) h2]
        exact e1
      · rw [e2 m]
        simp only [zsi_app, wIn]
        have hb : ¬ (j ≤ m ∧ m < 48) := by omega
        simp only [hb, if_false]
        by_cases c0 : m = 0
        · subst c0; simp
        by_cases c1 : m = 1
        · subst c1; simp
        by_cases c3 : m = 3
        · subst c3; simp
        by_cases c5 : m = 5
        · subst c5; simp
        by_cases c6 : m = 6
        · subst c6; simp
        simp [c0, c1, c3, c5, c6]
    | succ d ih =>
      intro j f S h1 hf
      obtain ⟨f, rfl⟩ : ∃ g, f = g + 1 := ⟨f - 1, by omega⟩
      obtain ⟨S', e1, e2⟩ := ih (j + 1) f (zsi S 102 j 0) (by omega) (by omega)
      refine ⟨S', ?_, fun m => ?_⟩
      · rw [zfix_s]; unfold fX8_lays_2
        rw [if_neg (show ¬ (48 : Int32) ≤ nI j from nI_ge (b := 48) (by omega) (by omega)), if_pos (gin (by omega) (by omega)), nI_clamp (by omega), zlet_s, nI_1]
        exact e1
      · rw [e2 m]
        have : (fun m => if j + 1 ≤ m ∧ m < 48 then (0 : Int32) else (zsi S 102 j 0).1 102 m) = (fun m => if j ≤ m ∧ m < 48 then 0 else S.1 102 m) := by
          funext x
          rw [zsi_app]
          by_cases a1 : j + 1 ≤ x ∧ x < 48
          · rw [if_pos a1, if_pos (by omega)]
          · rw [if_neg a1]
            by_cases a2 : x = j
            · rw [if_pos ⟨rfl, a2⟩, if_pos (by omega)]
            · rw [if_neg (fun h => a2 h.2), if_neg (by omega)]
        rw [this]
  obtain ⟨S', e1, e2⟩ := key 48 0 zF S (by omega) (by unfold zF; omega)
  refine ⟨S', e1, funext fun m => ?_⟩
  rw [e2 m]
  unfold layF
  simp
/-- what the model's row is, once it has begun -/
def Gf (S : zT) : Nat → Int32 := if S.1 101 4 = 0 then layF 4 0 (S.1 102) else S.1 102
theorem m_begins (S : zT) : ∃ S', fX8_begins S = some S' ∧ S'.1 102 = Gf S ∧ (S.1 101 4 = 0 ∨ S.1 101 4 = 1 → S'.1 101 4 = 1) := by
  unfold fX8_begins Gf
  by_cases h : S.1 101 4 = 0
  · obtain ⟨S', e1, e2⟩ := m_lays (k := 4) (kd := 0) (by omega) (by omega) (zsi S 101 4 1)
    have fr := frX8_lays e1
    refine ⟨S', ?_, ?_, fun _ => ?_⟩
    · rw [if_pos h, zlet_s]
      rw [show (4 : Int32) = nI 4 from rfl, e1, zbv_s]
    · rw [if_pos h, e2, zsi_n _ _ (by omega)]
    · rw [fr.slot (by simp) (by simp), zsi_app]; simp
  · refine ⟨S, ?_, ?_, fun h2 => ?_⟩
    · rw [if_neg h]
    · rw [if_neg h]
    · exact h2.resolve_left h
