def ldOK (w : Nat → Int32) (n : Nat) (S : zT) (i : Nat) : Prop := ∀ t, t < n → D_w w i t = true → S.1 76 (16 * i + t) = iZ (ld_d (D_w w i) n t)
def sxOK (w : Nat → Int32) (n : Nat) (S : zT) (i : Nat) : Prop := ∃ x : Nat, S.1 78 i = nI x ∧ x ≤ 16 ∧ (∀ t, t < n → D_w w i t = true → st_d (D_w w i) n t ≤ x) ∧ (x = 0 ∨ ∃ t, t < n ∧ D_w w i t = true ∧ st_d (D_w w i) n t = x)
def outLeg (i : Nat) (S S' : zT) : Prop := (∀ m, m < 16 * i ∨ 16 * i + 16 ≤ m → S'.1 76 m = S.1 76 m) ∧ ∀ k, k ≠ i → S'.1 78 k = S.1 78 k
theorem outLeg_tr {i : Nat} {S S1 S2 : zT} (h : outLeg i S S1) (g : outLeg i S1 S2) : outLeg i S S2 := ⟨fun m hm => (g.1 m hm).trans (h.1 m hm), fun k hk => (g.2 k hk).trans (h.2 k hk)⟩
def lpInv (d : Nat → Bool) (n i t : Nat) (S : zT) : Prop := (∀ f, f < t → sta_d d n f → ∀ j, j ≤ bh_d d n f → S.1 76 (16 * i + (f + j) % n) = iZ (ld_d d n ((f + j) % n))) ∧ ((∀ f, f < t → ¬ sta_d d n f) → ∀ s, s < n → S.1 76 (16 * i + s) = 0) ∧ ∃ x : Nat, S.1 78 i = nI x ∧ x ≤ 16 ∧ (∀ f, f < t → sta_d d n f → bh_d d n f ≤ x) ∧ (x = 0 ∨ ∃ f, f < t ∧ sta_d d n f ∧ bh_d d n f = x)
theorem lp_end {w : Nat → Int32} {n i : Nat} {S : zT} (hn1 : 1 ≤ n) (h : lpInv (D_w w i) n i n S) : ldOK w n S i ∧ sxOK w n S i := by
  obtain ⟨h1, h2, x, x1, x2, x3, x4⟩ := h
  by_cases hall : ∀ t, t < n → D_w w i t = true
  · have nost : ∀ f, f < n → ¬ sta_d (D_w w i) n f := fun f hf hs => by
      have := hall ((f + n - 1) % n) (Nat.mod_lt _ (by omega))
      rw [hs.2] at this; cases this
    refine ⟨fun t ht hd => ?_, x, x1, x2, fun t ht hd => ?_, ?_⟩
    · rw [h2 nost t ht]
      have : ld_d (D_w w i) n t = 0 := by unfold ld_d; rw [ah_full (by omega) hall, bh_full (by omega) hall]; omega
      rw [this]; rfl
    · unfold st_d; rw [ah_full (by omega) hall, bh_full (by omega) hall, if_neg (by omega)]; omega
    · rcases x4 with h | ⟨f, f1, f2, f3⟩
      · exact Or.inl h
      · exact absurd f2 (nost f f1)
  · refine ⟨fun t ht hd => ?_, x, x1, x2, fun t ht hd => ?_, ?_⟩
    · obtain ⟨f, f1, f2, f3, f4⟩ := sta_of (by omega) ht hd hall
      have := h1 f f1 f2 _ f3
      rw [f4] at this; exact this
    · obtain ⟨f, f1, f2, f3, f4⟩ := sta_of (by omega) ht hd hall
      obtain ⟨-, a, b⟩ := sta_in (by omega) f1 f2 f3
      rw [f4] at a b
      have := x3 f f1 f2
      unfold st_d
      split <;> omega
    · rcases x4 with h | ⟨f, f1, f2, f3⟩
      · exact Or.inl h
      · refine Or.inr ⟨f, f1, f2.1, ?_⟩
        have a := sta_ah (by omega) f1 f2
        have b := sta_bh (by omega) f1 f2
        unfold st_d
        rw [if_pos (by omega)]; omega
theorem c_rl52 {w : Nat → Int32} {K n i : Nat} (hw6 : w 6 = nI n) (hn1 : 1 ≤ n) (hn : n ≤ 16) (hi : i < 8) : ∀ (m t fu : Nat) (S : zT), t + m = n → m < fu → rC w K n S 68 → lpInv (D_w w i) n i t S → ∃ S', zfix (fun _ _ _ => none) fX5_readLeg_52 fu (nI i) (nI t) S = some S' ∧ outLeg i S S' ∧ lpInv (D_w w i) n i n S' := by
  intro m
  induction m with
  | zero =>
    intro t fu S h1 h2 hr hI
    obtain ⟨fu, rfl⟩ : ∃ g, fu = g + 1 := ⟨fu - 1, by omega⟩
    refine ⟨S, ?_, ⟨fun _ _ => rfl, fun _ _ => rfl⟩, by rw [show n = t by omega] at hI ⊢; exact hI⟩
    rw [zfix_s]; unfold fX5_readLeg_52
    rw [if_pos (by rw [hr.1.2.2.2.2.2.2, hw6]; exact nI_le (by omega) (by omega))]
  | succ m ih =>
    intro t fu S h1 h2 hr hI
    obtain ⟨fu, rfl⟩ : ∃ g, fu = g + 1 := ⟨fu - 1, by omega⟩
    have hmod : (t + n - 1) % n < n := Nat.mod_lt _ (by omega)
    have nosta : ¬ sta_d (D_w w i) n t → lpInv (D_w w i) n i (t + 1) S := by
      intro hns
      obtain ⟨a1, a2, x, x1, x2, x3, x4⟩ := hI
      refine ⟨fun f hf hs => ?_, fun h => a2 (fun f hf => h f (by omega)), x, x1, x2, fun f hf hs => ?_, ?_⟩
      · by_cases c : f = t
        · subst c; exact absurd hs hns
        · exact a1 f (by omega) hs
      · by_cases c : f = t
        · subst c; exact absurd hs hns
        · exact x3 f (by omega) hs
      · rcases x4 with h | ⟨f, f1, f2⟩
        · exact Or.inl h
        · exact Or.inr ⟨f, by omega, f2⟩
    have go : ∀ S1, rC w K n S1 68 → outLeg i S S1 → lpInv (D_w w i) n i (t + 1) S1 → ∃ S', fX5_readLeg_100 (zfix (fun _ _ _ => none) fX5_readLeg_52 fu) (nI i) (nI t) S1 = some S' ∧ outLeg i S S' ∧ lpInv (D_w w i) n i n S' := by
      intro S1 hr1 ho hI1
      obtain ⟨S', e1, e2, e3⟩ := ih (t + 1) fu S1 (by omega) (by omega) hr1 hI1
      refine ⟨S', ?_, outLeg_tr ho e2, e3⟩
      unfold fX5_readLeg_100
      rw [nI_1]; exact e1
    rw [zfix_s]; unfold fX5_readLeg_52
    rw [if_neg (by rw [hr.1.2.2.2.2.2.2, hw6]; exact nI_ge (by omega) (by omega)), c_isDown hn hr (by omega), zbi_s]
    by_cases c1 : D_w w i t = true
    · rw [if_pos c1, if_neg one_ne, c_tickAhead hw6 hn hr (by omega), zbi_s, c_isDown hn hr hmod, zbi_s]
      by_cases c2 : D_w w i ((t + n - 1) % n) = true
      · rw [if_pos c2, if_neg one_ne]
        exact go S hr ⟨fun _ _ => rfl, fun _ _ => rfl⟩ (nosta (fun h => by rw [h.2] at c2; cases c2))
      · rw [if_neg c2, if_pos rfl]
        have hs : sta_d (D_w w i) n t := ⟨c1, by simpa using c2⟩
        obtain ⟨a1, a2, x, x1, x2, x3, x4⟩ := hI
        obtain ⟨S1, e1, e2, e3, e4, e5⟩ := c_readStance hw6 hn1 hn hi (by omega) hr hs x1 (by omega)
        have fr1 := frX5_readStance e1
        have hb := sta_bh (by omega) (by omega) hs
        rw [e1, zbv_s]
        have keep : ∀ s, s < n → S.1 76 (16 * i + s) = iZ (ld_d (D_w w i) n s) → S1.1 76 (16 * i + s) = iZ (ld_d (D_w w i) n s) := by
          intro s hs' h
          rcases e3 (16 * i + s) with g | ⟨s', g1, g2, g3⟩
          · rw [g]; exact h
          · rw [g3, show s' = s by omega]
        refine go S1 (rC_other (fun k a b => fr1.cell (by simp; omega) (by omega)) hr) ⟨fun m hm => ?_, e5⟩ ⟨fun f hf hs' j hj => ?_, fun h => absurd hs (h t (by omega)), max x (bh_d (D_w w i) n t), e4, by omega, fun f hf hs' => ?_, ?_⟩
        · rcases e3 m with g | ⟨s', g1, g2, g3⟩
          · exact g
          · omega
        · by_cases c : f = t
          · subst c; exact e2 j hj
          · exact keep _ (Nat.mod_lt _ (by omega)) (a1 f (by omega) hs' j hj)
        · by_cases c : f = t
          · subst c; omega
          · have := x3 f (by omega) hs'; omega
        · by_cases c : x ≤ bh_d (D_w w i) n t
          · exact Or.inr ⟨t, by omega, hs, by omega⟩
          · rcases x4 with h | ⟨f, f1, f2, f3⟩
            · omega
            · exact Or.inr ⟨f, by omega, f2, by omega⟩
    · rw [if_neg c1, if_pos rfl]
      exact go S hr ⟨fun _ _ => rfl, fun _ _ => rfl⟩ (nosta (fun h => c1 h.1))
theorem c_readLeg {w : Nat → Int32} {K n i : Nat} {S : zT} (hw6 : w 6 = nI n) (hn1 : 1 ≤ n) (hn : n ≤ 16) (hi : i < 8) (hr : rC w K n S 68) (h67 : S.1 67 4 = 0) : ∃ S', fX5_readLeg (nI i) S = some S' ∧ outLeg i S S' ∧ ldOK w n S' i ∧ sxOK w n S' i := by
  have key : ∀ (m t fu : Nat) (S : zT), t + m = n → m < fu → rC w K n S 68 → S.1 78 i = 0 → (∀ s, s < t → S.1 76 (16 * i + s) = 0) → ∃ S', zfix (fun _ _ _ => none) fX5_readLeg_19 fu (nI i) (nI t) S = some S' ∧ outLeg i S S' ∧ lpInv (D_w w i) n i n S' := by
    intro m
    induction m with
    | zero =>
      intro t fu S h1 h2 hr h78 hz
      obtain ⟨fu, rfl⟩ : ∃ g, fu = g + 1 := ⟨fu - 1, by omega⟩
      obtain ⟨S', e1, e2, e3⟩ := c_rl52 (i := i) hw6 hn1 hn hi n 0 zF S (by omega) (by unfold zF; omega) hr ⟨fun f hf => by omega, fun _ s hs => hz s (by omega), 0, h78, by omega, fun f hf => by omega, Or.inl rfl⟩
      refine ⟨S', ?_, e2, e3⟩
      rw [zfix_s]; unfold fX5_readLeg_19
      rw [if_pos (by rw [hr.1.2.2.2.2.2.2, hw6]; exact nI_le (by omega) (by omega))]
      exact e1
    | succ m ih =>
      intro t fu S h1 h2 hr h78 hz
      obtain ⟨fu, rfl⟩ : ∃ g, fu = g + 1 := ⟨fu - 1, by omega⟩
      obtain ⟨S', e1, e2, e3⟩ := ih (t + 1) fu (zsi S 76 (16 * i + t) 0) (by omega) (by omega) (rC_other (fun k a b => zsi_n _ _ (by omega)) hr) (by rw [zsi_n _ _ (by omega), h78]) (fun s hs => by
        rw [zsi_k]
        by_cases c : s = t
        · subst c; rw [pk_us]
        · rw [pk_un (by omega)]; exact hz s (by omega))
      refine ⟨S', ?_, outLeg_tr ⟨fun m hm => by rw [zsi_k, pk_un (by omega)], fun k _ => by rw [zsi_n _ _ (by omega)]⟩ e2, e3⟩
      rw [zfix_s]; unfold fX5_readLeg_19
      rw [if_neg (by rw [hr.1.2.2.2.2.2.2, hw6]; exact nI_ge (by omega) (by omega)), show (nI i * 16) + nI t = nI (16 * i + t) by
        rw [show (16 : Int32) = nI 16 from rfl, pk_mul, nI_add, Nat.mul_comm], put_in (by omega) (by omega), zbv_s, nI_1]
      exact e1
  obtain ⟨S', e1, e2, e3⟩ := key n 0 zF (zsi S 78 i 0) (by omega) (by unfold zF; omega) (rC_other (fun k a b => zsi_n _ _ (by omega)) hr) (by rw [zsi_k, pk_us]) (fun s hs => by omega)
  obtain ⟨l1, l2⟩ := lp_end hn1 e3
  refine ⟨S', ?_, outLeg_tr ⟨fun m _ => by rw [zsi_n _ _ (by omega)], fun k hk => by rw [zsi_k, pk_un hk]⟩ e2, l1, l2⟩
  unfold fX5_readLeg
  rw [if_pos h67, put_in (by omega) (by omega), zbv_s]
  exact e1
/-- the stride has read the gait w -/
def SO1 (w : Nat → Int32) (K n : Nat) (S : zT) : Prop := rC w K n S 68 ∧ S.1 67 4 = 0 ∧ ∀ i, i < K → ldOK w n S i ∧ sxOK w n S i
theorem ld_out {w : Nat → Int32} {n i i' : Nat} {S S' : zT} (hn : n ≤ 16) (h : outLeg i S S') (hne : i' ≠ i) (hl : ldOK w n S i' ∧ sxOK w n S i') : ldOK w n S' i' ∧ sxOK w n S' i' := by
  refine ⟨fun t ht hd => ?_, ?_⟩
  · rw [h.1 _ (by omega)]; exact hl.1 t ht hd
  · obtain ⟨x, x1, x2⟩ := hl.2
    exact ⟨x, by rw [h.2 i' hne]; exact x1, x2⟩
theorem c_readGait {w : Nat → Int32} {K n : Nat} {S : zT} (hw : wfW w K n) (hr : rC w K n S 68) : ∃ S', fX5_readGait S = some S' ∧ SO1 w K n S' := by
  have hK := hw.1.2.2
  have key : ∀ (m i fu : Nat) (S : zT), i + m = K → m < fu → rC w K n S 68 → S.1 67 4 = 0 → (∀ i', i' < i → ldOK w n S i' ∧ sxOK w n S i') → ∃ S', zfix (fun _ _ => none) fX5_readGait_7 fu (nI i) S = some S' ∧ SO1 w K n S' := by
    intro m
    induction m with
    | zero =>
      intro i fu S h1 h2 hr h67 hl
      obtain ⟨fu, rfl⟩ : ∃ g, fu = g + 1 := ⟨fu - 1, by omega⟩
      refine ⟨S, ?_, hr, h67, fun i' hi' => hl i' (by omega)⟩
      rw [zfix_s]; unfold fX5_readGait_7
      rw [if_pos (by rw [hr.1.1, hw.1.1]; exact nI_le (by omega) (by omega))]
    | succ m ih =>
      intro i fu S h1 h2 hr h67 hl
      obtain ⟨fu, rfl⟩ : ∃ g, fu = g + 1 := ⟨fu - 1, by omega⟩
      obtain ⟨S1, e1, e2, e3, e4⟩ := c_readLeg (i := i) hw.2.1.1 hw.2.1.2.1 hw.2.1.2.2 (by omega) hr h67
      have fr1 := frX5_readLeg e1
      obtain ⟨S', f1, f2⟩ := ih (i + 1) fu S1 (by omega) (by omega) (rC_other (fun k a b => fr1.cell (by simp; omega) (by omega)) hr) (by rw [fr1.cell (by simp) (by omega), h67]) (fun i' hi' => by
        by_cases c : i' = i
        · subst c; exact ⟨e3, e4⟩
        · exact ld_out hw.2.1.2.2 e2 c (hl i' (by omega)))
      refine ⟨S', ?_, f2⟩
      rw [zfix_s]; unfold fX5_readGait_7
      rw [if_neg (by rw [hr.1.1, hw.1.1]; exact nI_ge (by omega) (by omega)), e1, zbv_s, nI_1]
      exact f1
  obtain ⟨S', e1, e2⟩ := key K 0 zF (zsi S 67 4 0) (by omega) (by unfold zF; omega) (rC_other (fun k a b => zsi_n _ _ (by omega)) hr) (by rw [zsi_k, pk_us]) (fun i' hi' => by omega)
  refine ⟨S', ?_, e2⟩
  unfold fX5_readGait
  rw [zlet_s]; exact e1
theorem c_copy {w : Nat → Int32} {K n : Nat} {S : zT} (hw : wfW w K n) (hr : rC w K n S 1) : ∃ S', fX6_copyFrom 68 1 S = some S' ∧ rC w K n S' 68 := by
  obtain ⟨S', e1, c0, c1, c2, c3⟩ := wkcopy (b := 68) (b1 := 1) (by omega) S
  exact ⟨S', e1, rC_state hw.1.2.2 hw.2.1.2.2 c0 c1 c2 c3 hr⟩
theorem c_tryOut {w : Nat → Int32} {K n : Nat} {S : zT} (hw : wfW w K n) (hr : rC w K n S 1) : ∃ S', fX7_tryOut S = some S' ∧ SO1 w K n S' := by
  obtain ⟨S1, e1, r1⟩ := c_copy hw hr
  obtain ⟨S2, e2, r2⟩ := c_readGait hw r1
  refine ⟨S2, ?_, r2⟩
  unfold fX7_tryOut
  rw [e1, zbv_s, e2, zbv_s]
theorem c_twiceY {w : Nat → Int32} {K n i t : Nat} {S : zT} (hw : wfW w K n) (hs : SO1 w K n S) (hi : i < K) (ht : t < n) (hd : D_w w i t = true) : fX5_twiceY (nI i) (nI t) S = some (fy_w w n i t, S) := by
  have hK := hw.1.2.2
  have hn := hw.2.1.2.2
  obtain ⟨hr, -, hl⟩ := hs
  unfold fX5_twiceY fy_w
  rw [at_in (by omega) (by omega), zbi_s, show (nI i * 16) + nI t = nI (16 * i + t) by
    rw [show (16 : Int32) = nI 16 from rfl, pk_mul, nI_add, Nat.mul_comm], at_in (by omega) (by omega), zbi_s, show S.1 (68 + 3 + 1) i = w (15 + i) from hr.2.2.1 i hi, show S.1 (75 + 1) (16 * i + t) = iZ (ld_d (D_w w i) n t) from (hl i hi).1 t ht hd, hr.1.2.2.2.2.1]
theorem cls_of {L : List Nat} {S S' : zT} (h : zFr L [] S S') (hL : ∀ k, k < 66 ∨ 101 ≤ k → k ∉ L) : clsFr S S' := fun k j hk => (h k j (hL k hk) (by simp)).1
