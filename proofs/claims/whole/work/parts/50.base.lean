/-! numbers -/
abbrev iZ (z : Int) : Int32 := Int32.ofInt z
theorem iZ_nI (n : Nat) : nI n = iZ (n : Int) := (Int32.ofInt_eq_ofNat).symm
theorem iZ_toInt {z : Int} (h1 : -2147483648 ≤ z) (h2 : z < 2147483648) : (iZ z).toInt = z := Int32.toInt_ofInt_of_le (by omega) (by omega)
theorem iZ_of (x : Int32) : x = iZ x.toInt := (Int32.ofInt_toInt x).symm
theorem iZ_le {a b : Int} (h1 : -2147483648 ≤ a) (h2 : a < 2147483648) (h3 : -2147483648 ≤ b) (h4 : b < 2147483648) : iZ a ≤ iZ b ↔ a ≤ b := by
  rw [Int32.le_iff_toInt_le, iZ_toInt h1 h2, iZ_toInt h3 h4]
theorem iZ_lt {a b : Int} (h1 : -2147483648 ≤ a) (h2 : a < 2147483648) (h3 : -2147483648 ≤ b) (h4 : b < 2147483648) : iZ a < iZ b ↔ a < b := by
  rw [Int32.lt_iff_toInt_lt, iZ_toInt h1 h2, iZ_toInt h3 h4]
theorem iZ_eq {a b : Int} (h1 : -2147483648 ≤ a) (h2 : a < 2147483648) (h3 : -2147483648 ≤ b) (h4 : b < 2147483648) : iZ a = iZ b ↔ a = b := by
  rw [← Int32.toInt_inj, iZ_toInt h1 h2, iZ_toInt h3 h4]
theorem iZ_add (a b : Int) : iZ a + iZ b = iZ (a + b) := (Int32.ofInt_add a b).symm
theorem iZ_sub (a b : Int) : iZ a - iZ b = iZ (a - b) := (Int32.ofInt_sub a b).symm
theorem iZ_mul (a b : Int) : iZ a * iZ b = iZ (a * b) := (Int32.ofInt_mul a b).symm
theorem iZ_neg (a : Int) : -iZ a = iZ (-a) := (Int32.ofInt_neg a).symm
theorem tI_add {a b : Int32} (h1 : -2147483648 ≤ a.toInt + b.toInt) (h2 : a.toInt + b.toInt < 2147483648) : (a + b).toInt = a.toInt + b.toInt := by
  rw [Int32.toInt_add]; exact Int.bmod_eq_of_le (by omega) (by omega)
theorem tI_sub {a b : Int32} (h1 : -2147483648 ≤ a.toInt - b.toInt) (h2 : a.toInt - b.toInt < 2147483648) : (a - b).toInt = a.toInt - b.toInt := by
  rw [Int32.toInt_sub]; exact Int.bmod_eq_of_le (by omega) (by omega)
theorem tI_mul {a b : Int32} (h1 : -2147483648 ≤ a.toInt * b.toInt) (h2 : a.toInt * b.toInt < 2147483648) : (a * b).toInt = a.toInt * b.toInt := by
  rw [Int32.toInt_mul]; exact Int.bmod_eq_of_le (by omega) (by omega)
theorem mul_bd {a b A B : Int} (h1 : -A ≤ a) (h2 : a ≤ A) (h3 : -B ≤ b) (h4 : b ≤ B) : -(A * B) ≤ a * b ∧ a * b ≤ A * B := by
  have hA : 0 ≤ A := by omega
  have hB : 0 ≤ B := by omega
  have e1 : 0 ≤ (A - a) * (B + b) := Int.mul_nonneg (by omega) (by omega)
  have e2 : 0 ≤ (A + a) * (B - b) := Int.mul_nonneg (by omega) (by omega)
  have e3 : 0 ≤ (A - a) * (B - b) := Int.mul_nonneg (by omega) (by omega)
  have e4 : 0 ≤ (A + a) * (B + b) := Int.mul_nonneg (by omega) (by omega)
  rw [Int.sub_mul, Int.mul_add, Int.mul_add] at e1
  rw [Int.add_mul, Int.mul_sub, Int.mul_sub] at e2
  rw [Int.sub_mul, Int.mul_sub, Int.mul_sub] at e3
  rw [Int.add_mul, Int.mul_add, Int.mul_add] at e4
  omega
/-! the state -/
theorem zsi_app (S : zT) (k j : Nat) (v : Int32) (k' j' : Nat) : (zsi S k j v).1 k' j' = if k' = k ∧ j' = j then v else S.1 k' j' := by
  by_cases h : k' = k
  · subst h; rw [zsi_k]; unfold upd; simp
  · rw [zsi_n _ _ h]; simp [h]
theorem zsi_app2 (S : zT) (k j : Nat) (v : Int32) (k' j' : Nat) : (zsi S k j v).2 k' j' = S.2 k' j' := rfl
theorem zsl_app (S : zT) (k j : Nat) (v : Int64) (k' j' : Nat) : (zsl S k j v).2 k' j' = if k' = k ∧ j' = j then v else S.2 k' j' := by
  by_cases h : k' = k
  · subst h; rw [zsl_k]; unfold vp_updL; simp
  · rw [zsl_n _ _ h]; simp [h]
theorem zsl_app1 (S : zT) (k j : Nat) (v : Int64) (k' j' : Nat) : (zsl S k j v).1 k' j' = S.1 k' j' := rfl
theorem zbi_s {R : Type} (r : Int32) (S : zT) (f : Int32 → zT → Option R) : zbi (some (r, S)) f = f r S := rfl
theorem zbl_s {R : Type} (r : Int64) (S : zT) (f : Int64 → zT → Option R) : zbl (some (r, S)) f = f r S := rfl
theorem zbv_s {R : Type} (S : zT) (f : zT → Option R) : zbv (some S) f = f S := rfl
theorem zlet_s {R : Type} (S : zT) (f : zT → Option R) : zlet S f = f S := rfl
theorem zfix_s {β : Type} (bot : β) (F : β → β) (n : Nat) : zfix bot F (n + 1) = F (zfix bot F n) := rfl
/-! rows -/
theorem at_in {b n i : Nat} {S : zT} (hi : i < n) (hn : n < 2147483648) : fX2_at b n (nI i) S = some (S.1 (b + 1) i, S) := by
  unfold fX2_at
  rw [if_neg (nI_pos (by omega)), if_neg (nI_ge hi (by omega)), if_pos (nI_in hi (by omega)), nI_clamp (by omega)]
theorem put_in {b n i : Nat} {S : zT} {v : Int32} (hi : i < n) (hn : n < 2147483648) : fX2_put b n (nI i) v S = some (zsi S (b + 1) i v) := by
  unfold fX2_put
  rw [if_neg (nI_pos (by omega)), if_neg (nI_ge hi (by omega)), if_pos (nI_in hi (by omega)), nI_clamp (by omega)]
  rfl
theorem rowcopy {b n b1 : Nat} (hb : b ≠ b1) (hn : n < 4096) (S : zT) : ∃ S', fX2_copyFrom b n b1 n S = some S' ∧ ∀ j, j < n → S'.1 (b + 1) j = S.1 (b1 + 1) j := by
  have key : ∀ (d j f : Nat) (S : zT), j + d = n → d < f → ∃ S', zfix (fun _ _ => none) (fX2_copyFrom_2 b n b1 n) f (nI j) S = some S' ∧ (∀ i, j ≤ i → i < n → S'.1 (b + 1) i = S.1 (b1 + 1) i) ∧ ∀ i, i < j → S'.1 (b + 1) i = S.1 (b + 1) i := by
    intro d
    induction d with
    | zero =>
      intro j f S h1 h2
      obtain ⟨f, rfl⟩ : ∃ g, f = g + 1 := ⟨f - 1, by omega⟩
      refine ⟨S, ?_, fun i h3 h4 => by omega, fun _ _ => rfl⟩
      rw [zfix_s]; unfold fX2_copyFrom_2
      rw [if_pos (nI_le (by omega) (by omega))]
    | succ d ih =>
      intro j f S h1 h2
      obtain ⟨f, rfl⟩ : ∃ g, f = g + 1 := ⟨f - 1, by omega⟩
      obtain ⟨S', e1, e2, e3⟩ := ih (j + 1) f (zsi S (b + 1) j (S.1 (b1 + 1) j)) (by omega) (by omega)
      refine ⟨S', ?_, fun i h3 h4 => ?_, fun i h3 => ?_⟩
      · rw [zfix_s]; unfold fX2_copyFrom_2
        rw [if_neg (nI_ge (by omega) (by omega)), at_in (by omega) (by omega), zbi_s, if_pos (nI_in (by omega) (by omega)), nI_clamp (by omega), zlet_s, nI_1]
        exact e1
      · by_cases hij : i = j
        · subst hij; rw [e3 i (by omega), zsi_app]; simp
        · rw [e2 i (by omega) h4, zsi_app]; simp; intro h5; omega
      · rw [e3 i (by omega), zsi_app]; simp; intro h5; omega
  obtain ⟨S', e1, e2, -⟩ := key n 0 zF S (by omega) (by unfold zF; omega)
  exact ⟨S', e1, fun j hj => e2 j (by omega) hj⟩
/-! two walkers, one the copy of the other -/
theorem wkcopy {b b1 : Nat} (hb : b + 7 ≤ b1 ∨ b1 + 7 ≤ b) (S : zT) : ∃ S', fX6_copyFrom b b1 S = some S' ∧ (∀ j, j < 7 → S'.1 b j = S.1 b1 j) ∧ (∀ j, j < 8 → S'.1 (b + 2) j = S.1 (b1 + 2) j) ∧ (∀ j, j < 8 → S'.1 (b + 4) j = S.1 (b1 + 4) j) ∧ ∀ j, j < 16 → S'.1 (b + 6) j = S.1 (b1 + 6) j := by
  unfold fX6_copyFrom
  simp only [zlet_s]
  generalize hS7 : zsi (zsi (zsi (zsi (zsi (zsi (zsi S b 0 (S.1 b1 0)) b 1 _) b 2 _) b 3 _) b 4 _) b 5 _) b 6 _ = S7
  have f7 : ∀ j, j < 7 → S7.1 b j = S.1 b1 j := by
    intro j hj
    rw [← hS7]
    rcases (show j = 0 ∨ j = 1 ∨ j = 2 ∨ j = 3 ∨ j = 4 ∨ j = 5 ∨ j = 6 by omega) with rfl | rfl | rfl | rfl | rfl | rfl | rfl <;> simp [zsi_app, (show b1 ≠ b by omega)]
  have g7 : ∀ k j, k ≠ b → S7.1 k j = S.1 k j := by
    intro k j hk
    rw [← hS7]
    simp [zsi_app, hk]
  obtain ⟨S8, e8, c8⟩ := rowcopy (b := b + 1) (b1 := b1 + 1) (n := 8) (by omega) (by omega) S7
  have r8 := frX2_copyFrom e8
  obtain ⟨S9, e9, c9⟩ := rowcopy (b := b + 3) (b1 := b1 + 3) (n := 8) (by omega) (by omega) S8
  have r9 := frX2_copyFrom e9
  obtain ⟨S10, e10, c10⟩ := rowcopy (b := b + 5) (b1 := b1 + 5) (n := 16) (by omega) (by omega) S9
  have r10 := frX2_copyFrom e10
  have k8 : ∀ k j, k ≠ b + 1 + 1 → S8.1 k j = S7.1 k j := fun k j h => (r8 k j (by simp; omega) (by simp)).1
  have k9 : ∀ k j, k ≠ b + 3 + 1 → S9.1 k j = S8.1 k j := fun k j h => (r9 k j (by simp; omega) (by simp)).1
  have k10 : ∀ k j, k ≠ b + 5 + 1 → S10.1 k j = S9.1 k j := fun k j h => (r10 k j (by simp; omega) (by simp)).1
  refine ⟨S10, ?_, fun j hj => ?_, fun j hj => ?_, fun j hj => ?_, fun j hj => ?_⟩
  · rw [e8, zbv_s, e9, zbv_s, e10, zbv_s]
  · rw [k10 b j (by omega), k9 b j (by omega), k8 b j (by omega), f7 j hj]
  · rw [k10 _ j (by omega), k9 _ j (by omega)]
    exact (c8 j hj).trans (g7 _ j (by omega))
  · rw [k10 _ j (by omega)]
    exact (c9 j hj).trans ((k8 _ j (by omega)).trans (g7 _ j (by omega)))
  · exact (c10 j hj).trans ((k9 _ j (by omega)).trans ((k8 _ j (by omega)).trans (g7 _ j (by omega))))
