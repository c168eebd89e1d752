theorem rC_other {w : Nat → Int32} {K n : Nat} {S S' : zT} (h : ∀ k, 68 ≤ k → k < 75 → S'.1 k = S.1 k) (hr : rC w K n S 68) : rC w K n S' 68 := rC_cells (fun k h1 h2 => h k h1 (by omega)) hr
theorem ring_ne {n f j j' : Nat} (h1 : j < j') (h2 : j' < j + n) : (f + j) % n ≠ (f + j') % n := by
  intro h
  have e1 := Nat.div_add_mod (f + j) n
  have e2 := Nat.div_add_mod (f + j') n
  rw [h] at e1
  rcases Nat.lt_trichotomy ((f + j) / n) ((f + j') / n) with c | c | c
  · have : n * ((f + j) / n + 1) ≤ n * ((f + j') / n) := Nat.mul_le_mul_left n c
    rw [Nat.mul_add] at this
    omega
  · rw [c] at e1; omega
  · have : n * ((f + j') / n + 1) ≤ n * ((f + j) / n) := Nat.mul_le_mul_left n c
    rw [Nat.mul_add] at this
    omega
theorem c_rs86 {w : Nat → Int32} {K n i f B : Nat} (hw6 : w 6 = nI n) (hn1 : 1 ≤ n) (hn : n ≤ 16) (hi : i < 8) (hB : B < n) : ∀ (m j fu : Nat) (S : zT), j + m = B + 1 → m < fu → rC w K n S 68 → ∃ S', zfix (fun _ _ _ _ _ => none) fX5_readStance_86 fu (nI i) (nI B) (nI ((f + j) % n)) (nI j) S = some S' ∧ (∀ j', j ≤ j' → j' ≤ B → S'.1 76 (16 * i + (f + j') % n) = iZ ((B : Int) - 2 * j')) ∧ ∀ m', (∀ j', j ≤ j' → j' ≤ B → m' ≠ 16 * i + (f + j') % n) → S'.1 76 m' = S.1 76 m' := by
  intro m
  induction m with
  | zero =>
    intro j fu S h1 h2 hr
    obtain ⟨fu, rfl⟩ : ∃ g, fu = g + 1 := ⟨fu - 1, by omega⟩
    refine ⟨S, ?_, fun j' a b => by omega, fun _ _ => rfl⟩
    rw [zfix_s]; unfold fX5_readStance_86
    rw [if_pos (nI_lt (by omega) (by omega))]
  | succ m ih =>
    intro j fu S h1 h2 hr
    obtain ⟨fu, rfl⟩ : ∃ g, fu = g + 1 := ⟨fu - 1, by omega⟩
    have hmod : (f + j) % n < n := Nat.mod_lt _ (by omega)
    obtain ⟨S', e1, e2, e3⟩ := ih (j + 1) fu (zsi S 76 (16 * i + (f + j) % n) (iZ ((B : Int) - 2 * j))) (by omega) (by omega) (rC_other (fun k a b => zsi_n _ _ (by omega)) hr)
    refine ⟨S', ?_, fun j' a b => ?_, fun m' hm => ?_⟩
    · rw [zfix_s]; unfold fX5_readStance_86
      rw [if_neg (nI_nlt (by omega) (by omega)), show (nI i * 16) + nI ((f + j) % n) = nI (16 * i + (f + j) % n) by
        rw [show (16 : Int32) = nI 16 from rfl, pk_mul, nI_add, Nat.mul_comm], put_in (by omega) (by omega), zbv_s, show nI B - 2 * nI j = iZ ((B : Int) - 2 * j) by
        rw [show (2 : Int32) = iZ 2 from rfl, iZ_nI, iZ_nI, iZ_mul, iZ_sub]]
      rw [c_tickAfter hw6 hn (rC_other (fun k a b => zsi_n _ _ (by omega)) hr) hmod, zbi_s, nI_1, show ((f + j) % n + 1) % n = (f + (j + 1)) % n by rw [Nat.mod_add_mod]; rfl]
      exact e1
    · by_cases c : j' = j
      · subst c
        rw [e3 _ (fun j'' a' b' => by have := ring_ne (n := n) (f := f) (j := j') (j' := j'') (by omega) (by omega); omega), zsi_k, pk_us]
      · exact e2 j' (by omega) b
    · rw [e3 m' (fun j' a b => hm j' (by omega) b), zsi_k, pk_un (hm j (by omega) (by omega))]
theorem zFr_rs86 : ∀ (fu : Nat) (x1 x3 x5 x6 : Int32) (S : zT) (o : zT), zfix (fun _ _ _ _ _ => none) fX5_readStance_86 fu x1 x3 x5 x6 S = some o → zFr [76] [] S o := by
  intro fu
  induction fu with
  | zero => intro x1 x3 x5 x6 S o h; exact zno (show (none : Option zT) = some o from h)
  | succ fu ih =>
    intro x1 x3 x5 x6 S o h
    replace h : fX5_readStance_86 (zfix (fun _ _ _ _ _ => none) fX5_readStance_86 fu) x1 x3 x5 x6 S = some o := h
    unfold fX5_readStance_86 at h
    rcases zif_or h with h | h
    · cases h; exact zFr_rf _ _ _
    · obtain ⟨S_1, h9, h⟩ := zbv_inv h
      refine zFr_trans (zFr_mono (frX2_put h9) (by simp) (by simp)) ?_
      obtain ⟨r, S_2, h9, h⟩ := zbi_inv h
      refine zFr_trans (zFr_mono (frX6_tickAfter h9) (by simp) (by simp)) ?_
      exact ih _ _ _ _ _ _ h
theorem c_readStance {w : Nat → Int32} {K n i f : Nat} {S : zT} (hw6 : w 6 = nI n) (hn1 : 1 ≤ n) (hn : n ≤ 16) (hi : i < 8) (hf : f < n) (hr : rC w K n S 68) (hs : sta_d (D_w w i) n f) {old : Nat} (hold : S.1 78 i = nI old) (ho : old < 2147483648) : ∃ S', fX5_readStance (nI i) (nI f) S = some S' ∧ (∀ j, j ≤ bh_d (D_w w i) n f → S'.1 76 (16 * i + (f + j) % n) = iZ (ld_d (D_w w i) n ((f + j) % n))) ∧ (∀ m, S'.1 76 m = S.1 76 m ∨ ∃ s, s < n ∧ m = 16 * i + s ∧ S'.1 76 m = iZ (ld_d (D_w w i) n s)) ∧ S'.1 78 i = nI (max old (bh_d (D_w w i) n f)) ∧ ∀ k, k ≠ i → S'.1 78 k = S.1 78 k := by
  have hb := sta_bh (by omega) hf hs
  have key : ∀ (m s fu : Nat), s + m = n - 1 → m < fu → zfix (fun _ _ _ _ _ _ => none) fX5_readStance_8 fu (nI i) (nI f) (nI s) (nI ((f + s) % n)) (nI (s + 1)) S = fX5_readStance_60 (nI i) (nI f) (nI (s + rl_r (fun j => D_w w i ((f + j + 1) % n)) m s)) S := by
    intro m
    induction m with
    | zero =>
      intro s fu h1 h2
      obtain ⟨fu, rfl⟩ : ∃ g, fu = g + 1 := ⟨fu - 1, by omega⟩
      rw [zfix_s]; unfold fX5_readStance_8
      rw [if_pos (by rw [hr.1.2.2.2.2.2.2, hw6]; exact nI_le (by omega) (by omega))]
      rfl
    | succ m ih =>
      intro s fu h1 h2
      obtain ⟨fu, rfl⟩ : ∃ g, fu = g + 1 := ⟨fu - 1, by omega⟩
      have e := ih (s + 1) fu (by omega) (by omega)
      have hmod : (f + s) % n < n := Nat.mod_lt _ (by omega)
      have hmod2 : (f + s + 1) % n < n := Nat.mod_lt _ (by omega)
      rw [zfix_s]; unfold fX5_readStance_8
      rw [if_neg (by rw [hr.1.2.2.2.2.2.2, hw6]; exact nI_ge (by omega) (by omega)), c_tickAfter hw6 hn hr hmod, zbi_s, show ((f + s) % n + 1) % n = (f + s + 1) % n by rw [Nat.mod_add_mod], c_isDown hn hr hmod2, zbi_s]
      unfold rl_r
      by_cases c : D_w w i ((f + s + 1) % n) = true
      · rw [if_pos c, if_neg one_ne, if_pos c, c_tickAfter hw6 hn hr hmod, zbi_s, show ((f + s) % n + 1) % n = (f + (s + 1)) % n by rw [Nat.mod_add_mod]; rfl, nI_1, nI_1]
        refine e.trans ?_
        rw [show s + 1 + rl_r (fun j => D_w w i ((f + j + 1) % n)) m (s + 1) = s + (rl_r (fun j => D_w w i ((f + j + 1) % n)) m (s + 1) + 1) by omega]
      · rw [if_neg c, if_pos rfl, if_neg c]; rfl
  have hrl : rl_r (fun j => D_w w i ((f + j + 1) % n)) (n - 1) 0 = bh_d (D_w w i) n f := rl_char _ (fun j hj => by rw [Nat.zero_add]; exact bh_all hj) (by omega) (fun _ => by rw [Nat.zero_add]; exact bh_stop (by omega))
  have k0 := key (n - 1) 0 zF (by omega) (by unfold zF; omega)
  rw [hrl] at k0
  simp only [Nat.zero_add, Nat.add_zero] at k0
  rw [Nat.mod_eq_of_lt hf] at k0
  generalize hBe : bh_d (D_w w i) n f = B at k0 hb ⊢
  obtain ⟨S1, hS1⟩ : ∃ S1, S1 = zsi S 78 i (nI (max old B)) := ⟨_, rfl⟩
  have hr1 : rC w K n S1 68 := rC_other (fun k a b => by rw [hS1, zsi_n _ _ (by omega)]) hr
  obtain ⟨S', e1, e2, e3⟩ := c_rs86 (f := f) hw6 hn1 hn hi (B := B) (by omega) (B + 1) 0 zF S1 (by omega) (by unfold zF; omega) hr1
  rw [Nat.add_zero, Nat.mod_eq_of_lt hf] at e1
  have val : ∀ j, j ≤ B → ld_d (D_w w i) n ((f + j) % n) = (B : Int) - 2 * j := by
    intro j hj
    obtain ⟨-, a, b⟩ := sta_in (by omega) hf hs (j := j) (by omega)
    unfold ld_d
    rw [a, b, hBe]; omega
  have fr86 : S'.1 78 = S1.1 78 := by
    have := zFr_rs86 _ _ _ _ _ _ _ e1
    exact this.cell (by simp) (by omega)
  refine ⟨S', ?_, fun j hj => ?_, fun m => ?_, ?_, fun k hk => ?_⟩
  · unfold fX5_readStance
    refine k0.trans ?_
    unfold fX5_readStance_60
    rw [at_in (by omega) (by omega), zbi_s, hold]
    have : (if nI old < nI B then nI B else nI old) = nI (max old B) := by
      by_cases c : old < B
      · rw [if_pos (nI_lt c (by omega)), Nat.max_eq_right (by omega)]
      · rw [if_neg (nI_nlt (by omega) (by omega)), Nat.max_eq_left (by omega)]
    rw [this, put_in (by omega) (by omega), zbv_s, ← hS1]
    exact e1
  · rw [e2 j (by omega) hj, val j hj]
  · by_cases c : ∀ j', 0 ≤ j' → j' ≤ B → m ≠ 16 * i + (f + j') % n
    · left
      rw [e3 m c, hS1, zsi_n _ _ (by omega)]
    · right
      obtain ⟨j', hj'⟩ := Classical.not_forall.mp c
      have a1 : j' ≤ B ∧ m = 16 * i + (f + j') % n := by
        refine ⟨Classical.byContradiction fun z => hj' (fun _ h => absurd h z), Classical.byContradiction fun z => hj' (fun _ _ => z)⟩
      exact ⟨(f + j') % n, Nat.mod_lt _ (by omega), a1.2, by rw [a1.2, e2 j' (by omega) a1.1, val j' a1.1]⟩
  · rw [fr86, hS1, zsi_k, pk_us]
  · rw [fr86, hS1, zsi_k, pk_un hk]
