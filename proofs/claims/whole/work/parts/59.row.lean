/-! sets as sums of bits -/
def bs_b (β : Nat → Bool) : Nat → Nat
  | 0 => 0
  | k + 1 => bs_b β k + (if β k then 2 ^ k else 0)
theorem bs_lt (β : Nat → Bool) : ∀ k, bs_b β k < 2 ^ k
  | 0 => by simp [bs_b]
  | k + 1 => by
    have := bs_lt β k
    unfold bs_b
    rw [Nat.pow_succ]
    split <;> omega
theorem bs_bit (β : Nat → Bool) : ∀ k i, i < k → bs_b β k / 2 ^ i % 2 = if β i then 1 else 0
  | 0, i, h => by omega
  | k + 1, i, h => by
    have hlt := bs_lt β k
    unfold bs_b
    by_cases e : i = k
    · subst e
      by_cases c : β i = true
      · rw [if_pos c, if_pos c, Nat.add_div_right _ (Nat.two_pow_pos i), Nat.div_eq_of_lt hlt]
      · rw [if_neg c, if_neg c, Nat.add_zero, Nat.div_eq_of_lt hlt]
    · have ih := bs_bit β k i (by omega)
      rw [← ih]
      by_cases c : β k = true
      · rw [if_pos c]
        obtain ⟨d, rfl⟩ : ∃ d, k = i + 1 + d := ⟨k - i - 1, by omega⟩
        rw [show 2 ^ (i + 1 + d) = 2 ^ i * (2 * 2 ^ d) by rw [Nat.pow_add, Nat.pow_add, Nat.mul_assoc, Nat.pow_one], Nat.add_mul_div_left _ _ (Nat.two_pow_pos i)]
        omega
      · rw [if_neg c, Nat.add_zero]
theorem bs_congr {β γ : Nat → Bool} : ∀ k, (∀ i, i < k → β i = γ i) → bs_b β k = bs_b γ k
  | 0, _ => rfl
  | k + 1, h => by
    unfold bs_b
    rw [bs_congr k (fun i hi => h i (by omega)), h k (by omega)]
def bset_b (β : Nat → Bool) (i : Nat) (c : Bool) : Nat → Bool := fun j => if j = i then c else β j
theorem bs_set (β : Nat → Bool) (i : Nat) (c : Bool) : ∀ k, i < k → bs_b (bset_b β i c) k + (if β i then 2 ^ i else 0) = bs_b β k + (if c then 2 ^ i else 0)
  | 0, h => by omega
  | k + 1, h => by
    unfold bs_b
    by_cases e : i = k
    · subst e
      rw [bs_congr (β := bset_b β i c) (γ := β) i (fun j hj => by unfold bset_b; rw [if_neg (by omega)])]
      have : bset_b β i c i = c := by unfold bset_b; rw [if_pos rfl]
      rw [this]; omega
    · have ih := bs_set β i c k (by omega)
      have : bset_b β i c k = β k := by unfold bset_b; rw [if_neg (by omega)]
      rw [this]; omega
theorem bs_ext (β : Nat → Bool) (K : Nat) : ∀ d, (∀ i, K ≤ i → i < K + d → β i = false) → bs_b β (K + d) = bs_b β K
  | 0, _ => rfl
  | d + 1, h => by
    show bs_b β (K + d) + (if β (K + d) then 2 ^ (K + d) else 0) = _
    rw [bs_ext β K d (fun i h1 h2 => h i h1 (by omega)), h (K + d) (by omega) (by omega)]
    simp
theorem or_fin : ∀ i, i < 8 → ∀ x, x < 2 ^ i → nI x ||| zshl 1 (nI i) = nI (x + 2 ^ i) := by decide +kernel
theorem clr_fin : ∀ i, i < 8 → ∀ x, x < 256 → nI x &&& (zshl 1 (nI i) ^^^ (-1)) = nI (x - x / 2 ^ i % 2 * 2 ^ i) := by decide +kernel
theorem set_fin : ∀ i, i < 8 → ∀ x, x < 256 → (nI x &&& (zshl 1 (nI i) ^^^ (-1))) ||| zshl 1 (nI i) = nI (x - x / 2 ^ i % 2 * 2 ^ i + 2 ^ i) := by decide +kernel
/-- the bit of a regular row: DOWN from the u-th tick behind the offset on -/
def bt_b (off : Nat → Nat) (u N i t : Nat) : Bool := decide (u ≤ (t + N - off i) % N)
def sbI (x : Int32) (i : Nat) (c : Bool) : Int32 := if c then (x &&& (zshl 1 (nI i) ^^^ (-1))) ||| zshl 1 (nI i) else x &&& (zshl 1 (nI i) ^^^ (-1))
theorem sbI_bs (β : Nat → Bool) {i : Nat} (hi : i < 8) (c : Bool) : sbI (nI (bs_b β 8)) i c = nI (bs_b (bset_b β i c) 8) := by
  have h1 := bs_set β i c 8 hi
  have h2 := bs_bit β 8 i hi
  have h3 := bs_lt β 8
  have h4 : bs_b β 8 < 256 := h3
  have h5 : β i = true → 2 ^ i ≤ bs_b β 8 := by
    intro hb
    rcases Nat.lt_or_ge (bs_b β 8) (2 ^ i) with h | h
    · rw [Nat.div_eq_of_lt h, if_pos hb] at h2; omega
    · exact h
  unfold sbI
  cases c with
  | true =>
    rw [if_pos rfl, set_fin i hi _ h4, h2]
    congr 1
    cases hb : β i with
    | true => have h6 := h5 hb; rw [hb] at h1; simp at h1 ⊢; omega
    | false => rw [hb] at h1; simp at h1 ⊢; omega
  | false =>
    rw [if_neg (by simp), clr_fin i hi _ h4, h2]
    congr 1
    cases hb : β i with
    | true => have h6 := h5 hb; rw [hb] at h1; simp at h1 ⊢; omega
    | false => rw [hb] at h1; simp at h1 ⊢; omega
theorem c_layLeg {b i N u : Nat} {off : Nat} (hi : i < 8) (hN : N ≤ 16) (hu : u < 2147483648) (ho : off < N) (S : zT) (h6 : S.1 b 6 = nI N) : ∃ S', fX6_layLeg b (nI i) (nI u) (nI off) S = some S' ∧ ∀ m, S'.1 (b + 6) m = if m < N then sbI (S.1 (b + 6) m) i (decide (u ≤ (m + N - off) % N)) else S.1 (b + 6) m := by
  have key : ∀ (d t f : Nat) (S : zT), t + d = N → d < f → S.1 b 6 = nI N → ∃ S', zfix (fun _ _ _ _ _ => none) (fX6_layLeg_8 b) f (nI u) (nI off) (zshl 1 (nI i)) (nI t) S = some S' ∧ ∀ m, S'.1 (b + 6) m = if t ≤ m ∧ m < N then sbI (S.1 (b + 6) m) i (decide (u ≤ (m + N - off) % N)) else S.1 (b + 6) m := by
    intro d
    induction d with
    | zero =>
      intro t f S h1 h2 h3
      obtain ⟨f, rfl⟩ : ∃ g, f = g + 1 := ⟨f - 1, by omega⟩
      refine ⟨S, ?_, fun m => by rw [if_neg (by omega)]⟩
      rw [zfix_s]; unfold fX6_layLeg_8
      rw [if_pos (by rw [h3]; exact nI_le (by omega) (by omega))]
    | succ d ih =>
      intro t f S h1 h2 h3
      obtain ⟨f, rfl⟩ : ∃ g, f = g + 1 := ⟨f - 1, by omega⟩
      obtain ⟨v, hv⟩ : ∃ v, v = sbI (S.1 (b + 6) t) i (decide (u ≤ (t + N - off) % N)) := ⟨_, rfl⟩
      obtain ⟨S', e1, e2⟩ := ih (t + 1) f (zsi S (b + 6) t v) (by omega) (by omega) (by rw [zsi_n _ _ (by omega), h3])
      have body : fX6_layLeg_39 b (zfix (fun _ _ _ _ _ => none) (fX6_layLeg_8 b) f) (nI u) (nI off) (zshl 1 (nI i)) (nI t) (nI ((t + N - off) % N)) S = some S' := by
        unfold fX6_layLeg_39 fX6_layLeg_79
        have hmod : (t + N - off) % N < N := Nat.mod_lt _ (by omega)
        rw [at_in (by omega) (by omega), zbi_s]
        by_cases c : u ≤ (t + N - off) % N
        · rw [if_pos (nI_le c (by omega)), put_in (by omega) (by omega), zbv_s, nI_1]
          rw [decide_eq_true c] at hv
          subst hv
          exact e1
        · rw [if_neg (nI_ge (by omega) (by omega)), put_in (by omega) (by omega), zbv_s, nI_1]
          rw [decide_eq_false c] at hv
          subst hv
          exact e1
      refine ⟨S', ?_, fun m => ?_⟩
      · rw [zfix_s]; unfold fX6_layLeg_8
        rw [if_neg (by rw [h3]; exact nI_ge (by omega) (by omega))]
        by_cases c : off ≤ t
        · rw [if_pos (nI_le c (by omega)), pk_sub c]
          rw [show (t + N - off) % N = t - off by
            rw [show t + N - off = (t - off) + N by omega, Nat.add_mod_right, Nat.mod_eq_of_lt (by omega)]] at body
          exact body
        · rw [if_neg (nI_ge (by omega) (by omega)), h3, show (nI t - nI off) + nI N = nI (t + N - off) by
            rw [iZ_nI, iZ_nI, iZ_nI, iZ_nI, iZ_sub, iZ_add]; congr 1; omega]
          rw [show (t + N - off) % N = t + N - off by rw [Nat.mod_eq_of_lt (by omega)]] at body
          exact body
      · rw [e2 m, zsi_k]
        unfold upd
        by_cases q1 : t + 1 ≤ m ∧ m < N
        · rw [if_pos q1, if_pos (show t ≤ m ∧ m < N by omega), if_neg (show ¬ m = t by omega)]
        · rw [if_neg q1]
          by_cases q2 : m = t
          · subst q2; rw [if_pos rfl, if_pos (show m ≤ m ∧ m < N by omega), hv]
          · rw [if_neg q2, if_neg (show ¬ (t ≤ m ∧ m < N) by omega)]
  obtain ⟨S', e1, e2⟩ := key N 0 zF S (by omega) (by unfold zF; omega) h6
  refine ⟨S', e1, fun m => ?_⟩
  rw [e2 m]
  by_cases q : m < N
  · rw [if_pos q, if_pos (by omega)]
  · rw [if_neg q, if_neg (by omega)]
/-- the sets of a regular row -/
def rw_s (K : Nat) (off : Nat → Nat) (u N t : Nat) : Int32 := nI (bs_b (fun j => decide (j < K) && bt_b off u N j t) 8)
theorem rw_lt {K : Nat} (hK : K ≤ 8) (off : Nat → Nat) (u N t : Nat) : ∃ s : Nat, s < 2 ^ K ∧ rw_s K off u N t = nI s := by
  refine ⟨_, ?_, rfl⟩
  obtain ⟨d, hd⟩ : ∃ d, 8 = K + d := ⟨8 - K, by omega⟩
  rw [hd, bs_ext _ K d (fun i h1 h2 => by rw [decide_eq_false (by omega)]; rfl)]
  exact bs_lt _ K
theorem rw_K {K : Nat} (hK : K ≤ 8) (off : Nat → Nat) (u N t : Nat) : rw_s K off u N t = nI (bs_b (fun j => bt_b off u N j t) K) := by
  unfold rw_s
  obtain ⟨d, hd⟩ : ∃ d, 8 = K + d := ⟨8 - K, by omega⟩
  rw [hd, bs_ext _ K d (fun i h1 h2 => by rw [decide_eq_false (by omega)]; rfl)]
  rw [bs_congr K (fun i hi => by rw [decide_eq_true hi, Bool.true_and])]
theorem bs_zero : ∀ k, bs_b (fun _ => false) k = 0
  | 0 => rfl
  | k + 1 => by unfold bs_b; rw [bs_zero k]; rfl
