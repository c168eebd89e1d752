/-! runs of ticks -/
def rl_r (P : Nat → Bool) : Nat → Nat → Nat
  | 0, _ => 0
  | m + 1, s => if P s then rl_r P m (s + 1) + 1 else 0
theorem rl_le (P : Nat → Bool) : ∀ m s, rl_r P m s ≤ m
  | 0, _ => by simp [rl_r]
  | m + 1, s => by
    have := rl_le P m (s + 1)
    unfold rl_r; split <;> omega
theorem rl_all (P : Nat → Bool) : ∀ m s j, j < rl_r P m s → P (s + j) = true
  | 0, s, j, h => by simp [rl_r] at h
  | m + 1, s, j, h => by
    unfold rl_r at h
    by_cases c : P s = true
    · rw [if_pos c] at h
      match j, h with
      | 0, h => exact c
      | j + 1, h =>
        have := rl_all P m (s + 1) j (by omega)
        rw [show s + (j + 1) = s + 1 + j by omega]; exact this
    · rw [if_neg c] at h; omega
theorem rl_stop (P : Nat → Bool) : ∀ m s, rl_r P m s < m → P (s + rl_r P m s) = false
  | 0, s, h => by omega
  | m + 1, s, h => by
    unfold rl_r at h ⊢
    by_cases c : P s = true
    · rw [if_pos c] at h ⊢
      have := rl_stop P m (s + 1) (by omega)
      rw [show s + (rl_r P m (s + 1) + 1) = s + 1 + rl_r P m (s + 1) by omega]; exact this
    · rw [if_neg c] at h ⊢
      simpa using c
theorem rl_char (P : Nat → Bool) {m s c : Nat} (h1 : ∀ j, j < c → P (s + j) = true) (h2 : c ≤ m) (h3 : c < m → P (s + c) = false) : rl_r P m s = c := by
  rcases Nat.lt_trichotomy (rl_r P m s) c with h | h | h
  · have a := rl_stop P m s (by omega)
    rw [h1 _ h] at a; cases a
  · exact h
  · have a := rl_all P m s c h
    rw [h3 (by have := rl_le P m s; omega)] at a; cases a
theorem rl_congr {P Q : Nat → Bool} : ∀ m s, (∀ j, j < m → P (s + j) = Q (s + j)) → rl_r P m s = rl_r Q m s
  | 0, s, _ => rfl
  | m + 1, s, h => by
    have e : rl_r P m (s + 1) = rl_r Q m (s + 1) := rl_congr m (s + 1) (fun j hj => by
      have := h (j + 1) (by omega)
      rw [show s + 1 + j = s + (j + 1) by omega]; exact this)
    have e0 : P s = Q s := h 0 (by omega)
    unfold rl_r
    rw [e0, e]
/-! a leg's ticks, round and round -/
def ah_d (d : Nat → Bool) (n t : Nat) : Nat := rl_r (fun j => d ((t + 2 * n - j - 1) % n)) n 0
def bh_d (d : Nat → Bool) (n t : Nat) : Nat := rl_r (fun j => d ((t + j + 1) % n)) n 0
theorem ah_le (d : Nat → Bool) (n t : Nat) : ah_d d n t ≤ n := rl_le _ _ _
theorem bh_le (d : Nat → Bool) (n t : Nat) : bh_d d n t ≤ n := rl_le _ _ _
theorem ah_all {d : Nat → Bool} {n t j : Nat} (h : j < ah_d d n t) : d ((t + 2 * n - j - 1) % n) = true := by
  have := rl_all _ n 0 j h
  rw [Nat.zero_add] at this; exact this
theorem bh_all {d : Nat → Bool} {n t j : Nat} (h : j < bh_d d n t) : d ((t + j + 1) % n) = true := by
  have := rl_all _ n 0 j h
  rw [Nat.zero_add] at this; exact this
theorem ah_stop {d : Nat → Bool} {n t : Nat} (h : ah_d d n t < n) : d ((t + 2 * n - ah_d d n t - 1) % n) = false := by
  have := rl_stop (fun j => d ((t + 2 * n - j - 1) % n)) n 0 h
  rw [Nat.zero_add] at this; exact this
theorem bh_stop {d : Nat → Bool} {n t : Nat} (h : bh_d d n t < n) : d ((t + bh_d d n t + 1) % n) = false := by
  have := rl_stop (fun j => d ((t + j + 1) % n)) n 0 h
  rw [Nat.zero_add] at this; exact this
theorem ah_char {d : Nat → Bool} {n t c : Nat} (h1 : ∀ j, j < c → d ((t + 2 * n - j - 1) % n) = true) (h2 : c ≤ n) (h3 : c < n → d ((t + 2 * n - c - 1) % n) = false) : ah_d d n t = c :=
  rl_char _ (fun j hj => by rw [Nat.zero_add]; exact h1 j hj) h2 (fun h => by rw [Nat.zero_add]; exact h3 h)
theorem bh_char {d : Nat → Bool} {n t c : Nat} (h1 : ∀ j, j < c → d ((t + j + 1) % n) = true) (h2 : c ≤ n) (h3 : c < n → d ((t + c + 1) % n) = false) : bh_d d n t = c :=
  rl_char _ (fun j hj => by rw [Nat.zero_add]; exact h1 j hj) h2 (fun h => by rw [Nat.zero_add]; exact h3 h)
theorem mod_add_n (a n : Nat) (hn : 0 < n) (k : Nat) : (a + k * n) % n = a % n := Nat.add_mul_mod_self_right a k n
/-- if the ticks down before and behind a tick that is down are n or more, all are -/
theorem all_down {d : Nat → Bool} {n t : Nat} (hn : 0 < n) (ht : t < n) (hd : d t = true) (h : n ≤ ah_d d n t + bh_d d n t) : ∀ s, s < n → d s = true := by
  intro s hs
  obtain ⟨k, hk⟩ : ∃ k, k = if t ≤ s then s - t else s + n - t := ⟨_, rfl⟩
  have k1 : k < n := by rw [hk]; split <;> omega
  have k2 : (t + k) % n = s := by
    rw [hk]; split
    · rw [show t + (s - t) = s by omega, Nat.mod_eq_of_lt hs]
    · rw [show t + (s + n - t) = s + n by omega, Nat.add_mod_right, Nat.mod_eq_of_lt hs]
  by_cases c0 : k = 0
  · rw [c0, Nat.add_zero, Nat.mod_eq_of_lt ht] at k2; rw [← k2]; exact hd
  by_cases c1 : k ≤ bh_d d n t
  · have := bh_all (d := d) (n := n) (t := t) (j := k - 1) (by omega)
    rw [show t + (k - 1) + 1 = t + k by omega, k2] at this; exact this
  · have := ah_all (d := d) (n := n) (t := t) (j := n - k - 1) (by omega)
    rw [show t + 2 * n - (n - k - 1) - 1 = t + k + n by omega, Nat.add_mod_right, k2] at this; exact this
theorem ah_full {d : Nat → Bool} {n t : Nat} (hn : 0 < n) (h : ∀ s, s < n → d s = true) : ah_d d n t = n := ah_char (fun j _ => h _ (Nat.mod_lt _ hn)) (Nat.le_refl _) (fun h => by omega)
theorem bh_full {d : Nat → Bool} {n t : Nat} (hn : 0 < n) (h : ∀ s, s < n → d s = true) : bh_d d n t = n := bh_char (fun j _ => h _ (Nat.mod_lt _ hn)) (Nat.le_refl _) (fun h => by omega)
/-- len - 1 of the stance at a tick -/
def st_d (d : Nat → Bool) (n t : Nat) : Nat := if ah_d d n t + bh_d d n t + 1 ≤ n then ah_d d n t + bh_d d n t else 0
/-- the start of a stance -/
def sta_d (d : Nat → Bool) (n f : Nat) : Prop := d f = true ∧ d ((f + n - 1) % n) = false
theorem sta_ah {d : Nat → Bool} {n f : Nat} (hn : 0 < n) (hf : f < n) (h : sta_d d n f) : ah_d d n f = 0 := by
  refine ah_char (fun j hj => by omega) (by omega) (fun _ => ?_)
  rw [show f + 2 * n - 0 - 1 = (f + n - 1) + n by omega, Nat.add_mod_right]; exact h.2
theorem sta_bh {d : Nat → Bool} {n f : Nat} (hn : 0 < n) (hf : f < n) (h : sta_d d n f) : bh_d d n f + 1 < n := by
  rcases Nat.lt_or_ge (bh_d d n f + 1) n with c | c
  · exact c
  · exfalso
    by_cases n1 : n = 1
    · subst n1
      have h1 := h.1
      have h2 := h.2
      rw [show f = 0 by omega] at h1 h2
      rw [h1] at h2; cases h2
    · have := bh_all (d := d) (n := n) (t := f) (j := n - 2) (by omega)
      rw [show f + (n - 2) + 1 = f + n - 1 by omega, h.2] at this; cases this
/-- along a stance -/
theorem sta_in {d : Nat → Bool} {n f j : Nat} (hn : 0 < n) (hf : f < n) (h : sta_d d n f) (hj : j ≤ bh_d d n f) : d ((f + j) % n) = true ∧ ah_d d n ((f + j) % n) = j ∧ bh_d d n ((f + j) % n) = bh_d d n f - j := by
  have hb := sta_bh hn hf h
  have hm : (f + j) % n < n := Nat.mod_lt _ hn
  obtain ⟨q, hq⟩ : ∃ q, f + j = (f + j) % n + q * n := ⟨(f + j) / n, by rw [Nat.mul_comm]; exact (Nat.mod_add_div (f + j) n).symm⟩
  have hq1 : q = 0 ∨ q = 1 := by
    rcases Nat.lt_or_ge q 2 with c | c
    · omega
    · have : 2 * n ≤ q * n := Nat.mul_le_mul_right n c
      omega
  refine ⟨?_, ?_, ?_⟩
  · by_cases c : j = 0
    · subst c; rw [Nat.add_zero, Nat.mod_eq_of_lt hf]; exact h.1
    · have := bh_all (d := d) (n := n) (t := f) (j := j - 1) (by omega)
      rw [show f + (j - 1) + 1 = f + j by omega] at this; exact this
  · refine ah_char (fun i hi => ?_) (by omega) (fun _ => ?_)
    · have e : ((f + j) % n + 2 * n - i - 1) % n = (f + (j - i - 1)) % n := by
        rcases hq1 with rfl | rfl
        · rw [show (f + j) % n + 2 * n - i - 1 = f + (j - i - 1) + 2 * n by omega, Nat.add_mul_mod_self_right]
        · rw [show (f + j) % n + 2 * n - i - 1 = f + (j - i - 1) + 1 * n by omega, Nat.add_mul_mod_self_right]
      rw [e]
      by_cases c : j - i - 1 = 0
      · rw [c, Nat.add_zero, Nat.mod_eq_of_lt hf]; exact h.1
      · have := bh_all (d := d) (n := n) (t := f) (j := j - i - 2) (by omega)
        rw [show f + (j - i - 2) + 1 = f + (j - i - 1) by omega] at this; exact this
    · have e : ((f + j) % n + 2 * n - j - 1) % n = (f + n - 1) % n := by
        rcases hq1 with rfl | rfl
        · rw [show (f + j) % n + 2 * n - j - 1 = f + n - 1 + 1 * n by omega, Nat.add_mul_mod_self_right]
        · rw [show (f + j) % n + 2 * n - j - 1 = f + n - 1 by omega]
      rw [e]; exact h.2
  · refine bh_char (fun i hi => ?_) (by omega) (fun _ => ?_)
    · have e : ((f + j) % n + i + 1) % n = (f + (j + i) + 1) % n := by
        rw [show f + (j + i) + 1 = (f + j) + (i + 1) by omega, Nat.add_assoc, Nat.mod_add_mod]
      rw [e]; exact bh_all (by omega)
    · have e : ((f + j) % n + (bh_d d n f - j) + 1) % n = (f + bh_d d n f + 1) % n := by
        rw [show f + bh_d d n f + 1 = (f + j) + (bh_d d n f - j + 1) by omega, Nat.add_assoc ((f + j) % n), Nat.mod_add_mod]
      rw [e]; exact bh_stop (by omega)
/-- each tick that is down, of a leg that isn't always, is in a stance -/
theorem sta_of {d : Nat → Bool} {n s : Nat} (hn : 0 < n) (hs : s < n) (hd : d s = true) (hne : ¬ ∀ t, t < n → d t = true) : ∃ f, f < n ∧ sta_d d n f ∧ ah_d d n s ≤ bh_d d n f ∧ (f + ah_d d n s) % n = s := by
  have hlt : ah_d d n s + bh_d d n s < n := by
    rcases Nat.lt_or_ge (ah_d d n s + bh_d d n s) n with c | c
    · exact c
    · exact absurd (all_down hn hs hd c) hne
  have e1 : ∀ i, i < n → (s + 2 * n - i - 1) % n = (s + n - i - 1) % n := fun i hi => by rw [show s + 2 * n - i - 1 = s + n - i - 1 + 1 * n by omega, Nat.add_mul_mod_self_right]
  obtain ⟨f, hf⟩ : ∃ f, f = (s + n - ah_d d n s) % n := ⟨_, rfl⟩
  have hfn : f < n := by rw [hf]; exact Nat.mod_lt _ hn
  have hback : (f + ah_d d n s) % n = s := by
    rw [hf, Nat.mod_add_mod, show s + n - ah_d d n s + ah_d d n s = s + n by omega, Nat.add_mod_right, Nat.mod_eq_of_lt hs]
  have hsta : sta_d d n f := by
    constructor
    · by_cases c : ah_d d n s = 0
      · rw [hf, c, Nat.sub_zero, Nat.add_mod_right, Nat.mod_eq_of_lt hs]; exact hd
      · have := ah_all (d := d) (n := n) (t := s) (j := ah_d d n s - 1) (by omega)
        rw [show s + 2 * n - (ah_d d n s - 1) - 1 = s + n - ah_d d n s + n by omega, Nat.add_mod_right, ← hf] at this; exact this
    · have := ah_stop (d := d) (n := n) (t := s) (by omega)
      have e : (f + n - 1) % n = (s + 2 * n - ah_d d n s - 1) % n := by
        rw [show s + 2 * n - ah_d d n s - 1 = (s + n - ah_d d n s) + (n - 1) by omega, ← Nat.mod_add_mod (s + n - ah_d d n s), ← hf, show f + n - 1 = f + (n - 1) by omega]
      rw [e]; exact this
  refine ⟨f, hfn, hsta, ?_, hback⟩
  rcases Nat.lt_or_ge (bh_d d n f) (ah_d d n s) with c | c
  · exfalso
    have h1 := bh_stop (d := d) (n := n) (t := f) (by omega)
    by_cases c2 : bh_d d n f + 1 = ah_d d n s
    · rw [show f + bh_d d n f + 1 = f + ah_d d n s by omega, hback, hd] at h1; cases h1
    · have h2 := ah_all (d := d) (n := n) (t := s) (j := ah_d d n s - bh_d d n f - 2) (by omega)
      have e : (f + bh_d d n f + 1) % n = (s + 2 * n - (ah_d d n s - bh_d d n f - 2) - 1) % n := by
        rw [show s + 2 * n - (ah_d d n s - bh_d d n f - 2) - 1 = (s + n - ah_d d n s) + (bh_d d n f + 1) + n by omega, Nat.add_mod_right, ← Nat.mod_add_mod (s + n - ah_d d n s), ← hf, Nat.add_assoc]
      rw [e, h2] at h1; cases h1
  · exact c
