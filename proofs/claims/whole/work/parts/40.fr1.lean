def zFr (L M : List Nat) (S S' : zT) : Prop := ∀ k j : Nat, k ∉ L → (k = 101 → j ∉ M) → S'.1 k j = S.1 k j ∧ S'.2 k j = S.2 k j
theorem zFr_rf (L M : List Nat) (S : zT) : zFr L M S S := fun _ _ _ _ => ⟨rfl, rfl⟩
theorem zFr_trans {L M : List Nat} {S S1 S2 : zT} (h : zFr L M S S1) (g : zFr L M S1 S2) : zFr L M S S2 := fun k j h1 h2 => ⟨(g k j h1 h2).1.trans (h k j h1 h2).1, (g k j h1 h2).2.trans (h k j h1 h2).2⟩
theorem zFr_mono {L M L' M' : List Nat} {S S1 : zT} (h : zFr L M S S1) (hL : ∀ x ∈ L, x ∈ L') (hM : ∀ x ∈ M, x ∈ M') : zFr L' M' S S1 := fun k j h1 h2 => h k j (fun z => h1 (hL k z)) (fun e z => h2 e (hM j z))
theorem zFr_si {L M : List Nat} {S : zT} {k j : Nat} {v : Int32} (h : k ∈ L) : zFr L M S (zsi S k j v) := fun k' j' h1 _ => ⟨congrFun (zsi_n (S := S) j v (show k' ≠ k from fun e => h1 (by rw [e]; exact h))) j', rfl⟩
theorem zFr_sl {L M : List Nat} {S : zT} {k j : Nat} {v : Int64} (h : k ∈ L) : zFr L M S (zsl S k j v) := fun k' j' h1 _ => ⟨rfl, congrFun (zsl_n (S := S) j v (show k' ≠ k from fun e => h1 (by rw [e]; exact h))) j'⟩
theorem zFr_mi {L M : List Nat} {S : zT} {j : Nat} {v : Int32} (h : j ∈ M) : zFr L M S (zsi S 101 j v) := fun k' j' _ h2 => ⟨by
  by_cases e : k' = 101
  · subst e
    rw [zsi_k, pk_un (show j' ≠ j from fun z => h2 rfl (by rw [z]; exact h))]
  · rw [zsi_n _ _ e], rfl⟩
theorem zFr_ml {L M : List Nat} {S : zT} {j : Nat} {v : Int64} (h : j ∈ M) : zFr L M S (zsl S 101 j v) := fun k' j' _ h2 => ⟨rfl, by
  by_cases e : k' = 101
  · subst e
    rw [zsl_k, pk_uLn (show j' ≠ j from fun z => h2 rfl (by rw [z]; exact h))]
  · rw [zsl_n _ _ e]⟩
theorem zFr_wi {T : Type} {L M : List Nat} {S S' : zT} {k j : Nat} {v : Int32} {g : zT → Option T} {o : T} (h : zlet (zsi S k j v) g = some o) (hk : k ∈ L) (kk : ∀ S1, g S1 = some o → zFr L M S1 S') : zFr L M S S' := zFr_trans (zFr_si hk) (kk _ h)
theorem zFr_wl {T : Type} {L M : List Nat} {S S' : zT} {k j : Nat} {v : Int64} {g : zT → Option T} {o : T} (h : zlet (zsl S k j v) g = some o) (hk : k ∈ L) (kk : ∀ S1, g S1 = some o → zFr L M S1 S') : zFr L M S S' := zFr_trans (zFr_sl hk) (kk _ h)
theorem zFr_wmi {T : Type} {L M : List Nat} {S S' : zT} {j : Nat} {v : Int32} {g : zT → Option T} {o : T} (h : zlet (zsi S 101 j v) g = some o) (hk : j ∈ M) (kk : ∀ S1, g S1 = some o → zFr L M S1 S') : zFr L M S S' := zFr_trans (zFr_mi hk) (kk _ h)
theorem zFr_wml {T : Type} {L M : List Nat} {S S' : zT} {j : Nat} {v : Int64} {g : zT → Option T} {o : T} (h : zlet (zsl S 101 j v) g = some o) (hk : j ∈ M) (kk : ∀ S1, g S1 = some o → zFr L M S1 S') : zFr L M S S' := zFr_trans (zFr_ml hk) (kk _ h)
theorem zif_or {R : Type} {c : Prop} {i : Decidable c} {a b : Option R} {o : R} (h : (@ite _ c i a b) = some o) : a = some o ∨ b = some o := by
  by_cases hc : c
  · exact Or.inl (zif_t hc h)
  · exact Or.inr (zif_f hc h)
theorem zFr.cell {L M : List Nat} {S S' : zT} (h : zFr L M S S') {k : Nat} (hk : k ∉ L) (h1 : k ≠ 101) : S'.1 k = S.1 k := funext fun j => (h k j hk (fun e => absurd e h1)).1
theorem zFr.cell2 {L M : List Nat} {S S' : zT} (h : zFr L M S S') {k : Nat} (hk : k ∉ L) (h1 : k ≠ 101) : S'.2 k = S.2 k := funext fun j => (h k j hk (fun e => absurd e h1)).2
theorem zFr.slot {L M : List Nat} {S S' : zT} (h : zFr L M S S') {j : Nat} (hL : 101 ∉ L) (hj : j ∉ M) : S'.1 101 j = S.1 101 j := (h 101 j hL (fun _ => hj)).1
set_option maxRecDepth 100000 in
set_option maxHeartbeats 4000000 in
theorem frX2_put {b : Nat} {n : Nat} {a1 : Int32} {a2 : Int32} {S : zT} {o : zT} (h : fX2_put b n a1 a2 S = some o) : zFr [b + 1] [] S o := by
  unfold fX2_put at h
  rcases zif_or h with h | h
  · cases h
    exact zFr_rf _ _ _
  · rcases zif_or h with h | h
    · cases h
      exact zFr_rf _ _ _
    · replace h := (zif_g h).2
      refine zFr_wi h (by simp) (fun S_1 h => ?_)
      cases h
      exact zFr_rf _ _ _

set_option maxRecDepth 100000 in
set_option maxHeartbeats 4000000 in
theorem frX6_fullSet {b : Nat} {S : zT} {o : Int32 × zT} (h : fX6_fullSet b S = some o) : zFr [] [] S o.2 := by
  unfold fX6_fullSet at h
  cases h
  exact zFr_rf _ _ _

set_option maxRecDepth 100000 in
set_option maxHeartbeats 4000000 in
theorem frX6_makeAnew {b : Nat} {a1 : Int32} {a2 : Int32} {S : zT} {o : zT} (h : fX6_makeAnew b a1 a2 S = some o) : zFr [b, b + 2, b + 4, b + 6] [] S o := by
  unfold fX6_makeAnew at h
  have L12 : ∀ (n12 : Nat) (x1 : Int32) (x3 : Int32) (S : zT), (zfix (fun _ _ _ => none) (fX6_makeAnew_12 b) n12) x1 x3 S = some o → zFr [b, b + 2, b + 4, b + 6] [] S o := by
    intro n12
    induction n12 with
    | zero => intro x1 x3 S h; exact zno (show (none : Option zT) = some o from h)
    | succ n12 ih12 =>
      intro x1 x3 S h
      replace h : fX6_makeAnew_12 b (zfix (fun _ _ _ => none) (fX6_makeAnew_12 b) n12) x1 x3 S = some o := h
      unfold fX6_makeAnew_12 at h
      have L37 : ∀ (x1 : Int32) (x3 : Int32) (t0 : Int32) (t1 : Int32) (S : zT), (fX6_makeAnew_37 b (zfix (fun _ _ _ => none) (fX6_makeAnew_12 b) n12)) x1 x3 t0 t1 S = some o → zFr [b, b + 2, b + 4, b + 6] [] S o := by
        intro x1 x3 t0 t1 S h
        unfold fX6_makeAnew_37 at h
        obtain ⟨S_1, h9, h⟩ := zbv_inv h
        refine zFr_trans (zFr_mono (frX2_put h9) (by simp) (by simp)) ?_
        obtain ⟨S_2, h9, h⟩ := zbv_inv h
        refine zFr_trans (zFr_mono (frX2_put h9) (by simp) (by simp)) ?_
        exact ih12 _ _ _ h
      rcases zif_or h with h | h
      · refine zFr_wi h (by simp) (fun S_3 h => ?_)
        refine zFr_wi h (by simp) (fun S_4 h => ?_)
        refine zFr_wi h (by simp) (fun S_5 h => ?_)
        refine zFr_wi h (by simp) (fun S_6 h => ?_)
        refine zFr_wi h (by simp) (fun S_7 h => ?_)
        obtain ⟨r_9, S_8, h9, h⟩ := zbi_inv h
        refine zFr_trans (zFr_mono (frX6_fullSet h9) (by simp) (by simp)) ?_
        obtain ⟨S_10, h9, h⟩ := zbv_inv h
        refine zFr_trans (zFr_mono (frX2_put h9) (by simp) (by simp)) ?_
        cases h
        exact zFr_rf _ _ _
      · rcases zif_or h with h | h
        · exact L37 _ _ _ _ _ h
        · exact L37 _ _ _ _ _ h
  refine zFr_wi h (by simp) (fun S_11 h => ?_)
  refine zFr_wi h (by simp) (fun S_12 h => ?_)
  exact L12 zF _ _ _ h

set_option maxRecDepth 100000 in
set_option maxHeartbeats 4000000 in
theorem frX7_isWithin {a0 : Int32} {a1 : Int32} {a2 : Int32} {S : zT} {o : Int32 × zT} (h : fX7_isWithin a0 a1 a2 S = some o) : zFr [] [] S o.2 := by
  unfold fX7_isWithin at h
  rcases zif_or h with h | h
  · cases h
    exact zFr_rf _ _ _
  · rcases zif_or h with h | h
    · cases h
      exact zFr_rf _ _ _
    · cases h
      exact zFr_rf _ _ _

set_option maxRecDepth 100000 in
set_option maxHeartbeats 4000000 in
theorem frX0_stateAt {a1 : Int32} {S : zT} {o : Option Nat × zT} (h : fX0_stateAt a1 S = some o) : zFr [] [] S o.2 := by
  unfold fX0_stateAt at h
  rcases zif_or h with h | h
  · cases h
    exact zFr_rf _ _ _
  · rcases zif_or h with h | h
    · cases h
      exact zFr_rf _ _ _
    · replace h := (zif_g h).2
      cases h
      exact zFr_rf _ _ _

set_option maxRecDepth 100000 in
set_option maxHeartbeats 4000000 in
theorem frX2_at {b : Nat} {n : Nat} {a1 : Int32} {S : zT} {o : Int32 × zT} (h : fX2_at b n a1 S = some o) : zFr [] [] S o.2 := by
  unfold fX2_at at h
  rcases zif_or h with h | h
  · cases h
    exact zFr_rf _ _ _
  · rcases zif_or h with h | h
    · cases h
      exact zFr_rf _ _ _
    · replace h := (zif_g h).2
      cases h
      exact zFr_rf _ _ _

set_option maxRecDepth 100000 in
set_option maxHeartbeats 4000000 in
theorem frX2_copyFrom {b : Nat} {n : Nat} {b1 : Nat} {n1 : Nat} {S : zT} {o : zT} (h : fX2_copyFrom b n b1 n1 S = some o) : zFr [b + 1] [] S o := by
  unfold fX2_copyFrom at h
  have L2 : ∀ (n2 : Nat) (x2 : Int32) (S : zT), (zfix (fun _ _ => none) (fX2_copyFrom_2 b n b1 n1) n2) x2 S = some o → zFr [b + 1] [] S o := by
    intro n2
    induction n2 with
    | zero => intro x2 S h; exact zno (show (none : Option zT) = some o from h)
    | succ n2 ih2 =>
      intro x2 S h
      replace h : fX2_copyFrom_2 b n b1 n1 (zfix (fun _ _ => none) (fX2_copyFrom_2 b n b1 n1) n2) x2 S = some o := h
      unfold fX2_copyFrom_2 at h
      rcases zif_or h with h | h
      · cases h
        exact zFr_rf _ _ _
      · obtain ⟨r_2, S_1, h9, h⟩ := zbi_inv h
        refine zFr_trans (zFr_mono (frX2_at h9) (by simp) (by simp)) ?_
        replace h := (zif_g h).2
        refine zFr_wi h (by simp) (fun S_3 h => ?_)
        exact ih2 _ _ h
  exact L2 zF _ _ h

set_option maxRecDepth 100000 in
set_option maxHeartbeats 4000000 in
theorem frX6_copyFrom {b : Nat} {b1 : Nat} {S : zT} {o : zT} (h : fX6_copyFrom b b1 S = some o) : zFr [b, b + 2, b + 4, b + 6] [] S o := by
  unfold fX6_copyFrom at h
  refine zFr_wi h (by simp) (fun S_1 h => ?_)
  refine zFr_wi h (by simp) (fun S_2 h => ?_)
  refine zFr_wi h (by simp) (fun S_3 h => ?_)
  refine zFr_wi h (by simp) (fun S_4 h => ?_)
  refine zFr_wi h (by simp) (fun S_5 h => ?_)
  refine zFr_wi h (by simp) (fun S_6 h => ?_)
  refine zFr_wi h (by simp) (fun S_7 h => ?_)
  obtain ⟨S_8, h9, h⟩ := zbv_inv h
  refine zFr_trans (zFr_mono (frX2_copyFrom h9) (by simp) (by simp)) ?_
  obtain ⟨S_9, h9, h⟩ := zbv_inv h
  refine zFr_trans (zFr_mono (frX2_copyFrom h9) (by simp) (by simp)) ?_
  obtain ⟨S_10, h9, h⟩ := zbv_inv h
  refine zFr_trans (zFr_mono (frX2_copyFrom h9) (by simp) (by simp)) ?_
  cases h
  exact zFr_rf _ _ _

set_option maxRecDepth 100000 in
set_option maxHeartbeats 4000000 in
theorem frX0_keep {b1 : Nat} {S : zT} {o : zT} (h : fX0_keep b1 S = some o) : zFr [8, 10, 12, 14, 16, 17, 19, 21, 23, 24, 26, 28, 30, 31, 33, 35, 37, 38, 40, 42, 44, 45, 47, 49, 51, 52, 54, 56, 58, 59, 61, 63, 65] [] S o := by
  unfold fX0_keep at h
  have L41 : ∀ (t0 : Int32) (S : zT), (fX0_keep_41 b1) t0 S = some o → zFr [8, 10, 12, 14, 16, 17, 19, 21, 23, 24, 26, 28, 30, 31, 33, 35, 37, 38, 40, 42, 44, 45, 47, 49, 51, 52, 54, 56, 58, 59, 61, 63, 65] [] S o := by
    intro t0 S h
    unfold fX0_keep_41 at h
    refine zFr_wi h (by simp) (fun S_1 h => ?_)
    refine zFr_wi h (by simp) (fun S_2 h => ?_)
    cases h
    exact zFr_rf _ _ _
  rcases zbw_inv h with ⟨S_3, h9, h⟩ | ⟨k_4, S_3, h9, hz9, h⟩
  · refine zFr_trans (zFr_mono (frX0_stateAt h9) (by simp) (by simp)) ?_
    cases h
    exact zFr_rf _ _ _
  · refine zFr_trans (zFr_mono (frX0_stateAt h9) (by simp) (by simp)) ?_
    obtain ⟨S_5, h9, h⟩ := zbv_inv h
    refine zFr_trans (zFr_mono (frX6_copyFrom h9) (by intro x hx; rcases hz9 with rfl | rfl | rfl | rfl | rfl | rfl | rfl | rfl <;> simp at hx ⊢ <;> omega) (by simp)) ?_
    rcases zif_or h with h | h
    · exact L41 _ _ h
    · exact L41 _ _ h

set_option maxRecDepth 100000 in
set_option maxHeartbeats 4000000 in
theorem frX7_walker {a1 : Int32} {a2 : Int32} {S : zT} {o : Int32 × zT} (h : fX7_walker a1 a2 S = some o) : zFr [1, 3, 5, 7, 8, 10, 12, 14, 16, 17, 19, 21, 23, 24, 26, 28, 30, 31, 33, 35, 37, 38, 40, 42, 44, 45, 47, 49, 51, 52, 54, 56, 58, 59, 61, 63, 65] [] S o.2 := by
  unfold fX7_walker at h
  obtain ⟨r_2, S_1, h9, h⟩ := zbi_inv h
  refine zFr_trans (zFr_mono (frX7_isWithin h9) (by simp) (by simp)) ?_
  rcases zif_or h with h | h
  · cases h
    exact zFr_rf _ _ _
  · obtain ⟨r_4, S_3, h9, h⟩ := zbi_inv h
    refine zFr_trans (zFr_mono (frX7_isWithin h9) (by simp) (by simp)) ?_
    rcases zif_or h with h | h
    · cases h
      exact zFr_rf _ _ _
    · obtain ⟨S_5, h9, h⟩ := zbv_inv h
      refine zFr_trans (zFr_mono (frX0_keep h9) (by simp) (by simp)) ?_
      obtain ⟨S_6, h9, h⟩ := zbv_inv h
      refine zFr_trans (zFr_mono (frX6_makeAnew h9) (by simp) (by simp)) ?_
      cases h
      exact zFr_rf _ _ _

set_option maxRecDepth 100000 in
set_option maxHeartbeats 4000000 in
theorem frX6_hasLeg {b : Nat} {a1 : Int32} {S : zT} {o : Int32 × zT} (h : fX6_hasLeg b a1 S = some o) : zFr [] [] S o.2 := by
  unfold fX6_hasLeg at h
  rcases zif_or h with h | h
  · cases h
    exact zFr_rf _ _ _
  · rcases zif_or h with h | h
    · cases h
      exact zFr_rf _ _ _
    · cases h
      exact zFr_rf _ _ _

set_option maxRecDepth 100000 in
set_option maxHeartbeats 4000000 in
theorem frX7_isPlace {a0 : Int32} {a1 : Int32} {S : zT} {o : Int32 × zT} (h : fX7_isPlace a0 a1 S = some o) : zFr [] [] S o.2 := by
  unfold fX7_isPlace at h
  obtain ⟨r_2, S_1, h9, h⟩ := zbi_inv h
  refine zFr_trans (zFr_mono (frX7_isWithin h9) (by simp) (by simp)) ?_
  rcases zif_or h with h | h
  · cases h
    exact zFr_rf _ _ _
  · obtain ⟨r_4, S_3, h9, h⟩ := zbi_inv h
    refine zFr_trans (zFr_mono (frX7_isWithin h9) (by simp) (by simp)) ?_
    rcases zif_or h with h | h
    · cases h
      exact zFr_rf _ _ _
    · cases h
      exact zFr_rf _ _ _

set_option maxRecDepth 100000 in
set_option maxHeartbeats 4000000 in
theorem frX6_legAt {b : Nat} {a1 : Int32} {a2 : Int32} {S : zT} {o : Int32 × zT} (h : fX6_legAt b a1 a2 S = some o) : zFr [] [] S o.2 := by
  unfold fX6_legAt at h
  have L2 : ∀ (n2 : Nat) (x1 : Int32) (x2 : Int32) (x3 : Int32) (S : zT), (zfix (fun _ _ _ _ => none) (fX6_legAt_2 b) n2) x1 x2 x3 S = some o → zFr [] [] S o.2 := by
    intro n2
    induction n2 with
    | zero => intro x1 x2 x3 S h; exact zno (show (none : Option (Int32 × zT)) = some o from h)
    | succ n2 ih2 =>
      intro x1 x2 x3 S h
      replace h : fX6_legAt_2 b (zfix (fun _ _ _ _ => none) (fX6_legAt_2 b) n2) x1 x2 x3 S = some o := h
      unfold fX6_legAt_2 at h
      have L36 : ∀ (x1 : Int32) (x2 : Int32) (x3 : Int32) (S : zT), (fX6_legAt_36 b (zfix (fun _ _ _ _ => none) (fX6_legAt_2 b) n2)) x1 x2 x3 S = some o → zFr [] [] S o.2 := by
        intro x1 x2 x3 S h
        unfold fX6_legAt_36 at h
        exact ih2 _ _ _ _ h
      rcases zif_or h with h | h
      · cases h
        exact zFr_rf _ _ _
      · obtain ⟨r_2, S_1, h9, h⟩ := zbi_inv h
        refine zFr_trans (zFr_mono (frX2_at h9) (by simp) (by simp)) ?_
        rcases zif_or h with h | h
        · obtain ⟨r_4, S_3, h9, h⟩ := zbi_inv h
          refine zFr_trans (zFr_mono (frX2_at h9) (by simp) (by simp)) ?_
          rcases zif_or h with h | h
          · cases h
            exact zFr_rf _ _ _
          · exact L36 _ _ _ _ h
        · exact L36 _ _ _ _ h
  exact L2 zF _ _ _ _ h

set_option maxRecDepth 100000 in
set_option maxHeartbeats 4000000 in
theorem frX7_leg {a1 : Int32} {a2 : Int32} {a3 : Int32} {S : zT} {o : Int32 × zT} (h : fX7_leg a1 a2 a3 S = some o) : zFr [3, 5, 8, 10, 12, 14, 16, 17, 19, 21, 23, 24, 26, 28, 30, 31, 33, 35, 37, 38, 40, 42, 44, 45, 47, 49, 51, 52, 54, 56, 58, 59, 61, 63, 65] [] S o.2 := by
  unfold fX7_leg at h
  have L46 : ∀ (x1 : Int32) (x2 : Int32) (x3 : Int32) (S : zT), fX7_leg_46 x1 x2 x3 S = some o → zFr [3, 5, 8, 10, 12, 14, 16, 17, 19, 21, 23, 24, 26, 28, 30, 31, 33, 35, 37, 38, 40, 42, 44, 45, 47, 49, 51, 52, 54, 56, 58, 59, 61, 63, 65] [] S o.2 := by
    intro x1 x2 x3 S h
    unfold fX7_leg_46 at h
    obtain ⟨S_1, h9, h⟩ := zbv_inv h
    refine zFr_trans (zFr_mono (frX0_keep h9) (by simp) (by simp)) ?_
    obtain ⟨S_2, h9, h⟩ := zbv_inv h
    refine zFr_trans (zFr_mono (frX2_put h9) (by simp) (by simp)) ?_
    obtain ⟨S_3, h9, h⟩ := zbv_inv h
    refine zFr_trans (zFr_mono (frX2_put h9) (by simp) (by simp)) ?_
    cases h
    exact zFr_rf _ _ _
  obtain ⟨r_5, S_4, h9, h⟩ := zbi_inv h
  refine zFr_trans (zFr_mono (frX6_hasLeg h9) (by simp) (by simp)) ?_
  rcases zif_or h with h | h
  · cases h
    exact zFr_rf _ _ _
  · obtain ⟨r_7, S_6, h9, h⟩ := zbi_inv h
    refine zFr_trans (zFr_mono (frX7_isPlace h9) (by simp) (by simp)) ?_
    rcases zif_or h with h | h
    · cases h
      exact zFr_rf _ _ _
    · obtain ⟨r_9, S_8, h9, h⟩ := zbi_inv h
      refine zFr_trans (zFr_mono (frX6_legAt h9) (by simp) (by simp)) ?_
      rcases zif_or h with h | h
      · exact L46 _ _ _ _ h
      · rcases zif_or h with h | h
        · exact L46 _ _ _ _ h
        · cases h
          exact zFr_rf _ _ _

set_option maxRecDepth 100000 in
set_option maxHeartbeats 4000000 in
theorem frX7_middle {a1 : Int32} {a2 : Int32} {S : zT} {o : Int32 × zT} (h : fX7_middle a1 a2 S = some o) : zFr [1, 8, 10, 12, 14, 16, 17, 19, 21, 23, 24, 26, 28, 30, 31, 33, 35, 37, 38, 40, 42, 44, 45, 47, 49, 51, 52, 54, 56, 58, 59, 61, 63, 65] [] S o.2 := by
  unfold fX7_middle at h
  obtain ⟨r_2, S_1, h9, h⟩ := zbi_inv h
  refine zFr_trans (zFr_mono (frX7_isPlace h9) (by simp) (by simp)) ?_
  rcases zif_or h with h | h
  · cases h
    exact zFr_rf _ _ _
  · obtain ⟨S_3, h9, h⟩ := zbv_inv h
    refine zFr_trans (zFr_mono (frX0_keep h9) (by simp) (by simp)) ?_
    refine zFr_wi h (by simp) (fun S_4 h => ?_)
    refine zFr_wi h (by simp) (fun S_5 h => ?_)
    cases h
    exact zFr_rf _ _ _

set_option maxRecDepth 100000 in
set_option maxHeartbeats 4000000 in
theorem frX7_pace {a1 : Int32} {a2 : Int32} {S : zT} {o : Int32 × zT} (h : fX7_pace a1 a2 S = some o) : zFr [1, 8, 10, 12, 14, 16, 17, 19, 21, 23, 24, 26, 28, 30, 31, 33, 35, 37, 38, 40, 42, 44, 45, 47, 49, 51, 52, 54, 56, 58, 59, 61, 63, 65] [] S o.2 := by
  unfold fX7_pace at h
  obtain ⟨r_2, S_1, h9, h⟩ := zbi_inv h
  refine zFr_trans (zFr_mono (frX7_isWithin h9) (by simp) (by simp)) ?_
  rcases zif_or h with h | h
  · cases h
    exact zFr_rf _ _ _
  · obtain ⟨r_4, S_3, h9, h⟩ := zbi_inv h
    refine zFr_trans (zFr_mono (frX7_isWithin h9) (by simp) (by simp)) ?_
    rcases zif_or h with h | h
    · cases h
      exact zFr_rf _ _ _
    · obtain ⟨S_5, h9, h⟩ := zbv_inv h
      refine zFr_trans (zFr_mono (frX0_keep h9) (by simp) (by simp)) ?_
      refine zFr_wi h (by simp) (fun S_6 h => ?_)
      refine zFr_wi h (by simp) (fun S_7 h => ?_)
      cases h
      exact zFr_rf _ _ _

set_option maxRecDepth 100000 in
set_option maxHeartbeats 4000000 in
theorem frX7_gait {a1 : Int32} {a2 : Int32} {a3 : Int32} {a4 : Int32} {a5 : Int32} {a6 : Int32} {S : zT} {o : Int32 × zT} (h : fX7_gait a1 a2 a3 a4 a5 a6 S = some o) : zFr [1, 7, 8, 10, 12, 14, 16, 17, 19, 21, 23, 24, 26, 28, 30, 31, 33, 35, 37, 38, 40, 42, 44, 45, 47, 49, 51, 52, 54, 56, 58, 59, 61, 63, 65] [] S o.2 := by
  unfold fX7_gait at h
  have L43 : ∀ (n43 : Nat) (x2 : Int32) (x3 : Int32) (x4 : Int32) (x5 : Int32) (x6 : Int32) (x7 : Int32) (S : zT), (zfix (fun _ _ _ _ _ _ _ => none) fX7_gait_43 n43) x2 x3 x4 x5 x6 x7 S = some o → zFr [1, 7, 8, 10, 12, 14, 16, 17, 19, 21, 23, 24, 26, 28, 30, 31, 33, 35, 37, 38, 40, 42, 44, 45, 47, 49, 51, 52, 54, 56, 58, 59, 61, 63, 65] [] S o.2 := by
    intro n43
    induction n43 with
    | zero => intro x2 x3 x4 x5 x6 x7 S h; exact zno (show (none : Option (Int32 × zT)) = some o from h)
    | succ n43 ih43 =>
      intro x2 x3 x4 x5 x6 x7 S h
      replace h : fX7_gait_43 (zfix (fun _ _ _ _ _ _ _ => none) fX7_gait_43 n43) x2 x3 x4 x5 x6 x7 S = some o := h
      unfold fX7_gait_43 at h
      have L85 : ∀ (x2 : Int32) (x3 : Int32) (x4 : Int32) (x5 : Int32) (x6 : Int32) (x7 : Int32) (t0 : Int32) (S : zT), (fX7_gait_85 (zfix (fun _ _ _ _ _ _ _ => none) fX7_gait_43 n43)) x2 x3 x4 x5 x6 x7 t0 S = some o → zFr [1, 7, 8, 10, 12, 14, 16, 17, 19, 21, 23, 24, 26, 28, 30, 31, 33, 35, 37, 38, 40, 42, 44, 45, 47, 49, 51, 52, 54, 56, 58, 59, 61, 63, 65] [] S o.2 := by
        intro x2 x3 x4 x5 x6 x7 t0 S h
        unfold fX7_gait_85 at h
        obtain ⟨r_2, S_1, h9, h⟩ := zbi_inv h
        refine zFr_trans (zFr_mono (frX6_fullSet h9) (by simp) (by simp)) ?_
        obtain ⟨S_3, h9, h⟩ := zbv_inv h
        refine zFr_trans (zFr_mono (frX2_put h9) (by simp) (by simp)) ?_
        exact ih43 _ _ _ _ _ _ _ h
      rcases zif_or h with h | h
      · cases h
        exact zFr_rf _ _ _
      · rcases zif_or h with h | h
        · rcases zif_or h with h | h
          · rcases zif_or h with h | h
            · exact L85 _ _ _ _ _ _ _ _ h
            · exact L85 _ _ _ _ _ _ _ _ h
          · exact L85 _ _ _ _ _ _ _ _ h
        · exact L85 _ _ _ _ _ _ _ _ h
  obtain ⟨r_5, S_4, h9, h⟩ := zbi_inv h
  refine zFr_trans (zFr_mono (frX7_isWithin h9) (by simp) (by simp)) ?_
  rcases zif_or h with h | h
  · cases h
    exact zFr_rf _ _ _
  · obtain ⟨r_7, S_6, h9, h⟩ := zbi_inv h
    refine zFr_trans (zFr_mono (frX7_isWithin h9) (by simp) (by simp)) ?_
    rcases zif_or h with h | h
    · cases h
      exact zFr_rf _ _ _
    · obtain ⟨S_8, h9, h⟩ := zbv_inv h
      refine zFr_trans (zFr_mono (frX0_keep h9) (by simp) (by simp)) ?_
      refine zFr_wi h (by simp) (fun S_9 h => ?_)
      exact L43 zF _ _ _ _ _ _ _ h

set_option maxRecDepth 100000 in
set_option maxHeartbeats 4000000 in
theorem frX6_hasTick {b : Nat} {a1 : Int32} {S : zT} {o : Int32 × zT} (h : fX6_hasTick b a1 S = some o) : zFr [] [] S o.2 := by
  unfold fX6_hasTick at h
  rcases zif_or h with h | h
  · cases h
    exact zFr_rf _ _ _
  · rcases zif_or h with h | h
    · cases h
      exact zFr_rf _ _ _
    · cases h
      exact zFr_rf _ _ _

set_option maxRecDepth 100000 in
set_option maxHeartbeats 4000000 in
theorem frX6_hasSet {b : Nat} {a1 : Int32} {S : zT} {o : Int32 × zT} (h : fX6_hasSet b a1 S = some o) : zFr [] [] S o.2 := by
  unfold fX6_hasSet at h
  rcases zif_or h with h | h
  · cases h
    exact zFr_rf _ _ _
  · obtain ⟨r_2, S_1, h9, h⟩ := zbi_inv h
    refine zFr_trans (zFr_mono (frX6_fullSet h9) (by simp) (by simp)) ?_
    rcases zif_or h with h | h
    · cases h
      exact zFr_rf _ _ _
    · cases h
      exact zFr_rf _ _ _

set_option maxRecDepth 100000 in
set_option maxHeartbeats 4000000 in
theorem frX7_tick {a1 : Int32} {a2 : Int32} {S : zT} {o : Int32 × zT} (h : fX7_tick a1 a2 S = some o) : zFr [7, 8, 10, 12, 14, 16, 17, 19, 21, 23, 24, 26, 28, 30, 31, 33, 35, 37, 38, 40, 42, 44, 45, 47, 49, 51, 52, 54, 56, 58, 59, 61, 63, 65] [] S o.2 := by
  unfold fX7_tick at h
  obtain ⟨r_2, S_1, h9, h⟩ := zbi_inv h
  refine zFr_trans (zFr_mono (frX6_hasTick h9) (by simp) (by simp)) ?_
  rcases zif_or h with h | h
  · cases h
    exact zFr_rf _ _ _
  · obtain ⟨r_4, S_3, h9, h⟩ := zbi_inv h
    refine zFr_trans (zFr_mono (frX6_hasSet h9) (by simp) (by simp)) ?_
    rcases zif_or h with h | h
    · cases h
      exact zFr_rf _ _ _
    · obtain ⟨S_5, h9, h⟩ := zbv_inv h
      refine zFr_trans (zFr_mono (frX0_keep h9) (by simp) (by simp)) ?_
      obtain ⟨S_6, h9, h⟩ := zbv_inv h
      refine zFr_trans (zFr_mono (frX2_put h9) (by simp) (by simp)) ?_
      cases h
      exact zFr_rf _ _ _

set_option maxRecDepth 100000 in
set_option maxHeartbeats 4000000 in
theorem frX7_areTicks {a0 : Int32} {a1 : Int32} {S : zT} {o : Int32 × zT} (h : fX7_areTicks a0 a1 S = some o) : zFr [] [] S o.2 := by
  unfold fX7_areTicks at h
  obtain ⟨r_2, S_1, h9, h⟩ := zbi_inv h
  refine zFr_trans (zFr_mono (frX7_isWithin h9) (by simp) (by simp)) ?_
  rcases zif_or h with h | h
  · cases h
    exact zFr_rf _ _ _
  · obtain ⟨r_4, S_3, h9, h⟩ := zbi_inv h
    refine zFr_trans (zFr_mono (frX7_isWithin h9) (by simp) (by simp)) ?_
    rcases zif_or h with h | h
    · cases h
      exact zFr_rf _ _ _
    · cases h
      exact zFr_rf _ _ _

set_option maxRecDepth 100000 in
set_option maxHeartbeats 4000000 in
theorem frX7_offsetOf {a0 : Int32} {a1 : Int32} {S : zT} {o : Int32 × zT} (h : fX7_offsetOf a0 a1 S = some o) : zFr [] [] S o.2 := by
  unfold fX7_offsetOf at h
  cases h
  exact zFr_rf _ _ _

set_option maxRecDepth 100000 in
set_option maxHeartbeats 4000000 in
theorem frX6_layLeg {b : Nat} {a1 : Int32} {a2 : Int32} {a3 : Int32} {S : zT} {o : zT} (h : fX6_layLeg b a1 a2 a3 S = some o) : zFr [b + 6] [] S o := by
  unfold fX6_layLeg at h
  have L8 : ∀ (n8 : Nat) (x2 : Int32) (x3 : Int32) (x4 : Int32) (x5 : Int32) (S : zT), (zfix (fun _ _ _ _ _ => none) (fX6_layLeg_8 b) n8) x2 x3 x4 x5 S = some o → zFr [b + 6] [] S o := by
    intro n8
    induction n8 with
    | zero => intro x2 x3 x4 x5 S h; exact zno (show (none : Option zT) = some o from h)
    | succ n8 ih8 =>
      intro x2 x3 x4 x5 S h
      replace h : fX6_layLeg_8 b (zfix (fun _ _ _ _ _ => none) (fX6_layLeg_8 b) n8) x2 x3 x4 x5 S = some o := h
      unfold fX6_layLeg_8 at h
      have L39 : ∀ (x2 : Int32) (x3 : Int32) (x4 : Int32) (x5 : Int32) (t0 : Int32) (S : zT), (fX6_layLeg_39 b (zfix (fun _ _ _ _ _ => none) (fX6_layLeg_8 b) n8)) x2 x3 x4 x5 t0 S = some o → zFr [b + 6] [] S o := by
        intro x2 x3 x4 x5 t0 S h
        unfold fX6_layLeg_39 at h
        have L79 : ∀ (x2 : Int32) (x3 : Int32) (x4 : Int32) (x5 : Int32) (t0 : Int32) (t1 : Int32) (S : zT), (fX6_layLeg_79 b (zfix (fun _ _ _ _ _ => none) (fX6_layLeg_8 b) n8)) x2 x3 x4 x5 t0 t1 S = some o → zFr [b + 6] [] S o := by
          intro x2 x3 x4 x5 t0 t1 S h
          unfold fX6_layLeg_79 at h
          obtain ⟨S_1, h9, h⟩ := zbv_inv h
          refine zFr_trans (zFr_mono (frX2_put h9) (by simp) (by simp)) ?_
          exact ih8 _ _ _ _ _ h
        obtain ⟨r_3, S_2, h9, h⟩ := zbi_inv h
        refine zFr_trans (zFr_mono (frX2_at h9) (by simp) (by simp)) ?_
        rcases zif_or h with h | h
        · exact L79 _ _ _ _ _ _ _ h
        · exact L79 _ _ _ _ _ _ _ h
      rcases zif_or h with h | h
      · cases h
        exact zFr_rf _ _ _
      · rcases zif_or h with h | h
        · exact L39 _ _ _ _ _ _ h
        · exact L39 _ _ _ _ _ _ h
  exact L8 zF _ _ _ _ _ h

set_option maxRecDepth 100000 in
set_option maxHeartbeats 4000000 in
theorem frX6_layRow {b : Nat} {a1 : Int32} {a2 : Int32} {a3 : Int32} {S : zT} {o : zT} (h : fX6_layRow b a1 a2 a3 S = some o) : zFr [b, b + 6] [] S o := by
  unfold fX6_layRow at h
  have L8 : ∀ (n8 : Nat) (x1 : Int32) (x2 : Int32) (x3 : Int32) (x4 : Int32) (S : zT), (zfix (fun _ _ _ _ _ => none) (fX6_layRow_8 b) n8) x1 x2 x3 x4 S = some o → zFr [b, b + 6] [] S o := by
    intro n8
    induction n8 with
    | zero => intro x1 x2 x3 x4 S h; exact zno (show (none : Option zT) = some o from h)
    | succ n8 ih8 =>
      intro x1 x2 x3 x4 S h
      replace h : fX6_layRow_8 b (zfix (fun _ _ _ _ _ => none) (fX6_layRow_8 b) n8) x1 x2 x3 x4 S = some o := h
      unfold fX6_layRow_8 at h
      have L40 : ∀ (n40 : Nat) (x2 : Int32) (x3 : Int32) (x4 : Int32) (S : zT), (zfix (fun _ _ _ _ => none) (fX6_layRow_40 b) n40) x2 x3 x4 S = some o → zFr [b, b + 6] [] S o := by
        intro n40
        induction n40 with
        | zero => intro x2 x3 x4 S h; exact zno (show (none : Option zT) = some o from h)
        | succ n40 ih40 =>
          intro x2 x3 x4 S h
          replace h : fX6_layRow_40 b (zfix (fun _ _ _ _ => none) (fX6_layRow_40 b) n40) x2 x3 x4 S = some o := h
          unfold fX6_layRow_40 at h
          rcases zif_or h with h | h
          · cases h
            exact zFr_rf _ _ _
          · obtain ⟨r_2, S_1, h9, h⟩ := zbi_inv h
            refine zFr_trans (zFr_mono (frX7_offsetOf h9) (by simp) (by simp)) ?_
            obtain ⟨S_3, h9, h⟩ := zbv_inv h
            refine zFr_trans (zFr_mono (frX6_layLeg h9) (by simp) (by simp)) ?_
            exact ih40 _ _ _ _ h
      rcases zif_or h with h | h
      · obtain ⟨S_4, h9, h⟩ := zbv_inv h
        refine zFr_trans (zFr_mono (frX6_layLeg h9) (by simp) (by simp)) ?_
        exact L40 zF _ _ _ _ h
      · obtain ⟨S_5, h9, h⟩ := zbv_inv h
        refine zFr_trans (zFr_mono (frX2_put h9) (by simp) (by simp)) ?_
        exact ih8 _ _ _ _ _ h
  refine zFr_wi h (by simp) (fun S_6 h => ?_)
  exact L8 zF _ _ _ _ _ h

set_option maxRecDepth 100000 in
set_option maxHeartbeats 4000000 in
theorem frX7_regular {a1 : Int32} {a2 : Int32} {a3 : Int32} {S : zT} {o : Int32 × zT} (h : fX7_regular a1 a2 a3 S = some o) : zFr [1, 7, 8, 10, 12, 14, 16, 17, 19, 21, 23, 24, 26, 28, 30, 31, 33, 35, 37, 38, 40, 42, 44, 45, 47, 49, 51, 52, 54, 56, 58, 59, 61, 63, 65] [] S o.2 := by
  unfold fX7_regular at h
  have L13 : ∀ (n13 : Nat) (x1 : Int32) (x2 : Int32) (x3 : Int32) (x4 : Int32) (S : zT), (zfix (fun _ _ _ _ _ => none) fX7_regular_13 n13) x1 x2 x3 x4 S = some o → zFr [1, 7, 8, 10, 12, 14, 16, 17, 19, 21, 23, 24, 26, 28, 30, 31, 33, 35, 37, 38, 40, 42, 44, 45, 47, 49, 51, 52, 54, 56, 58, 59, 61, 63, 65] [] S o.2 := by
    intro n13
    induction n13 with
    | zero => intro x1 x2 x3 x4 S h; exact zno (show (none : Option (Int32 × zT)) = some o from h)
    | succ n13 ih13 =>
      intro x1 x2 x3 x4 S h
      replace h : fX7_regular_13 (zfix (fun _ _ _ _ _ => none) fX7_regular_13 n13) x1 x2 x3 x4 S = some o := h
      unfold fX7_regular_13 at h
      rcases zif_or h with h | h
      · obtain ⟨S_1, h9, h⟩ := zbv_inv h
        refine zFr_trans (zFr_mono (frX0_keep h9) (by simp) (by simp)) ?_
        obtain ⟨S_2, h9, h⟩ := zbv_inv h
        refine zFr_trans (zFr_mono (frX6_layRow h9) (by simp) (by simp)) ?_
        cases h
        exact zFr_rf _ _ _
      · obtain ⟨r_4, S_3, h9, h⟩ := zbi_inv h
        refine zFr_trans (zFr_mono (frX7_offsetOf h9) (by simp) (by simp)) ?_
        rcases zif_or h with h | h
        · exact ih13 _ _ _ _ _ h
        · cases h
          exact zFr_rf _ _ _
  obtain ⟨r_6, S_5, h9, h⟩ := zbi_inv h
  refine zFr_trans (zFr_mono (frX7_areTicks h9) (by simp) (by simp)) ?_
  rcases zif_or h with h | h
  · cases h
    exact zFr_rf _ _ _
  · exact L13 zF _ _ _ _ _ h

set_option maxRecDepth 100000 in
set_option maxHeartbeats 4000000 in
theorem frX6_twinOf {b : Nat} {a1 : Int32} {S : zT} {o : Int32 × zT} (h : fX6_twinOf b a1 S = some o) : zFr [] [] S o.2 := by
  unfold fX6_twinOf at h
  obtain ⟨r_2, S_1, h9, h⟩ := zbi_inv h
  refine zFr_trans (zFr_mono (frX2_at h9) (by simp) (by simp)) ?_
  obtain ⟨r_4, S_3, h9, h⟩ := zbi_inv h
  refine zFr_trans (zFr_mono (frX2_at h9) (by simp) (by simp)) ?_
  obtain ⟨r_6, S_5, h9, h⟩ := zbi_inv h
  refine zFr_trans (zFr_mono (frX6_legAt h9) (by simp) (by simp)) ?_
  cases h
  exact zFr_rf _ _ _

set_option maxRecDepth 100000 in
set_option maxHeartbeats 4000000 in
theorem frX6_isMirrored {b : Nat} {S : zT} {o : Int32 × zT} (h : fX6_isMirrored b S = some o) : zFr [] [] S o.2 := by
  unfold fX6_isMirrored at h
  have L2 : ∀ (n2 : Nat) (x1 : Int32) (S : zT), (zfix (fun _ _ => none) (fX6_isMirrored_2 b) n2) x1 S = some o → zFr [] [] S o.2 := by
    intro n2
    induction n2 with
    | zero => intro x1 S h; exact zno (show (none : Option (Int32 × zT)) = some o from h)
    | succ n2 ih2 =>
      intro x1 S h
      replace h : fX6_isMirrored_2 b (zfix (fun _ _ => none) (fX6_isMirrored_2 b) n2) x1 S = some o := h
      unfold fX6_isMirrored_2 at h
      rcases zif_or h with h | h
      · rcases zif_or h with h | h
        · cases h
          exact zFr_rf _ _ _
        · cases h
          exact zFr_rf _ _ _
      · obtain ⟨r_2, S_1, h9, h⟩ := zbi_inv h
        refine zFr_trans (zFr_mono (frX6_twinOf h9) (by simp) (by simp)) ?_
        rcases zif_or h with h | h
        · cases h
          exact zFr_rf _ _ _
        · exact ih2 _ _ h
  exact L2 zF _ _ h

set_option maxRecDepth 100000 in
set_option maxHeartbeats 4000000 in
theorem frX7_aboutLeg {a1 : Int32} {S : zT} {o : Int32 × zT} (h : fX7_aboutLeg a1 S = some o) : zFr [] [] S o.2 := by
  unfold fX7_aboutLeg at h
  obtain ⟨r_2, S_1, h9, h⟩ := zbi_inv h
  refine zFr_trans (zFr_mono (frX7_isWithin h9) (by simp) (by simp)) ?_
  rcases zif_or h with h | h
  · cases h
    exact zFr_rf _ _ _
  · obtain ⟨r_4, S_3, h9, h⟩ := zbi_inv h
    refine zFr_trans (zFr_mono (frX6_hasLeg h9) (by simp) (by simp)) ?_
    rcases zif_or h with h | h
    · cases h
      exact zFr_rf _ _ _
    · rcases zif_or h with h | h
      · rcases zif_or h with h | h
        · obtain ⟨r_6, S_5, h9, h⟩ := zbi_inv h
          refine zFr_trans (zFr_mono (frX6_twinOf h9) (by simp) (by simp)) ?_
          rcases zif_or h with h | h
          · cases h
            exact zFr_rf _ _ _
          · cases h
            exact zFr_rf _ _ _
        · obtain ⟨r_8, S_7, h9, h⟩ := zbi_inv h
          refine zFr_trans (zFr_mono (frX2_at h9) (by simp) (by simp)) ?_
          cases h
          exact zFr_rf _ _ _
      · obtain ⟨r_10, S_9, h9, h⟩ := zbi_inv h
        refine zFr_trans (zFr_mono (frX2_at h9) (by simp) (by simp)) ?_
        cases h
        exact zFr_rf _ _ _

set_option maxRecDepth 100000 in
set_option maxHeartbeats 4000000 in
theorem frX7_about {a1 : Int32} {S : zT} {o : Int32 × zT} (h : fX7_about a1 S = some o) : zFr [] [] S o.2 := by
  unfold fX7_about at h
  rcases zif_or h with h | h
  · cases h
    exact zFr_rf _ _ _
  rcases zif_or h with h | h
  · cases h
    exact zFr_rf _ _ _
  rcases zif_or h with h | h
  · cases h
    exact zFr_rf _ _ _
  rcases zif_or h with h | h
  · cases h
    exact zFr_rf _ _ _
  rcases zif_or h with h | h
  · cases h
    exact zFr_rf _ _ _
  rcases zif_or h with h | h
  · cases h
    exact zFr_rf _ _ _
  rcases zif_or h with h | h
  · cases h
    exact zFr_rf _ _ _
  rcases zif_or h with h | h
  · obtain ⟨r_2, S_1, h9, h⟩ := zbi_inv h
    refine zFr_trans (zFr_mono (frX6_isMirrored h9) (by simp) (by simp)) ?_
    rcases zif_or h with h | h
    · cases h
      exact zFr_rf _ _ _
    · cases h
      exact zFr_rf _ _ _
  obtain ⟨r_4, S_3, h9, h⟩ := zbi_inv h
  refine zFr_trans (zFr_mono (frX7_aboutLeg h9) (by simp) (by simp)) ?_
  cases h
  exact zFr_rf _ _ _

set_option maxRecDepth 100000 in
set_option maxHeartbeats 4000000 in
theorem frX7_down {a1 : Int32} {S : zT} {o : Int32 × zT} (h : fX7_down a1 S = some o) : zFr [] [] S o.2 := by
  unfold fX7_down at h
  obtain ⟨r_2, S_1, h9, h⟩ := zbi_inv h
  refine zFr_trans (zFr_mono (frX6_hasTick h9) (by simp) (by simp)) ?_
  rcases zif_or h with h | h
  · cases h
    exact zFr_rf _ _ _
  · obtain ⟨r_4, S_3, h9, h⟩ := zbi_inv h
    refine zFr_trans (zFr_mono (frX2_at h9) (by simp) (by simp)) ?_
    cases h
    exact zFr_rf _ _ _

set_option maxRecDepth 100000 in
set_option maxHeartbeats 4000000 in
theorem frX6_isDown {b : Nat} {a1 : Int32} {a2 : Int32} {S : zT} {o : Int32 × zT} (h : fX6_isDown b a1 a2 S = some o) : zFr [] [] S o.2 := by
  unfold fX6_isDown at h
  obtain ⟨r_2, S_1, h9, h⟩ := zbi_inv h
  refine zFr_trans (zFr_mono (frX2_at h9) (by simp) (by simp)) ?_
  rcases zif_or h with h | h
  · cases h
    exact zFr_rf _ _ _
  · cases h
    exact zFr_rf _ _ _

set_option maxRecDepth 100000 in
set_option maxHeartbeats 4000000 in
theorem frX6_tickAhead {b : Nat} {a1 : Int32} {S : zT} {o : Int32 × zT} (h : fX6_tickAhead b a1 S = some o) : zFr [] [] S o.2 := by
  unfold fX6_tickAhead at h
  rcases zif_or h with h | h
  · cases h
    exact zFr_rf _ _ _
  · cases h
    exact zFr_rf _ _ _

set_option maxRecDepth 100000 in
set_option maxHeartbeats 4000000 in
theorem frX6_tickAfter {b : Nat} {a1 : Int32} {S : zT} {o : Int32 × zT} (h : fX6_tickAfter b a1 S = some o) : zFr [] [] S o.2 := by
  unfold fX6_tickAfter at h
  rcases zif_or h with h | h
  · cases h
    exact zFr_rf _ _ _
  · cases h
    exact zFr_rf _ _ _

set_option maxRecDepth 100000 in
set_option maxHeartbeats 4000000 in
theorem frX5_readStance {a1 : Int32} {a2 : Int32} {S : zT} {o : zT} (h : fX5_readStance a1 a2 S = some o) : zFr [76, 78] [] S o := by
  unfold fX5_readStance at h
  have L8 : ∀ (n8 : Nat) (x1 : Int32) (x2 : Int32) (x3 : Int32) (x4 : Int32) (x5 : Int32) (S : zT), (zfix (fun _ _ _ _ _ _ => none) fX5_readStance_8 n8) x1 x2 x3 x4 x5 S = some o → zFr [76, 78] [] S o := by
    intro n8
    induction n8 with
    | zero => intro x1 x2 x3 x4 x5 S h; exact zno (show (none : Option zT) = some o from h)
    | succ n8 ih8 =>
      intro x1 x2 x3 x4 x5 S h
      replace h : fX5_readStance_8 (zfix (fun _ _ _ _ _ _ => none) fX5_readStance_8 n8) x1 x2 x3 x4 x5 S = some o := h
      unfold fX5_readStance_8 at h
      have L60 : ∀ (x1 : Int32) (x2 : Int32) (x3 : Int32) (S : zT), fX5_readStance_60 x1 x2 x3 S = some o → zFr [76, 78] [] S o := by
        intro x1 x2 x3 S h
        unfold fX5_readStance_60 at h
        have L86 : ∀ (n86 : Nat) (x1 : Int32) (x3 : Int32) (x5 : Int32) (x6 : Int32) (S : zT), (zfix (fun _ _ _ _ _ => none) fX5_readStance_86 n86) x1 x3 x5 x6 S = some o → zFr [76, 78] [] S o := by
          intro n86
          induction n86 with
          | zero => intro x1 x3 x5 x6 S h; exact zno (show (none : Option zT) = some o from h)
          | succ n86 ih86 =>
            intro x1 x3 x5 x6 S h
            replace h : fX5_readStance_86 (zfix (fun _ _ _ _ _ => none) fX5_readStance_86 n86) x1 x3 x5 x6 S = some o := h
            unfold fX5_readStance_86 at h
            rcases zif_or h with h | h
            · cases h
              exact zFr_rf _ _ _
            · obtain ⟨S_1, h9, h⟩ := zbv_inv h
              refine zFr_trans (zFr_mono (frX2_put h9) (by simp) (by simp)) ?_
              obtain ⟨r_3, S_2, h9, h⟩ := zbi_inv h
              refine zFr_trans (zFr_mono (frX6_tickAfter h9) (by simp) (by simp)) ?_
              exact ih86 _ _ _ _ _ h
        obtain ⟨r_5, S_4, h9, h⟩ := zbi_inv h
        refine zFr_trans (zFr_mono (frX2_at h9) (by simp) (by simp)) ?_
        obtain ⟨S_6, h9, h⟩ := zbv_inv h
        refine zFr_trans (zFr_mono (frX2_put h9) (by simp) (by simp)) ?_
        exact L86 zF _ _ _ _ _ h
      rcases zif_or h with h | h
      · exact L60 _ _ _ _ h
      · obtain ⟨r_8, S_7, h9, h⟩ := zbi_inv h
        refine zFr_trans (zFr_mono (frX6_tickAfter h9) (by simp) (by simp)) ?_
        obtain ⟨r_10, S_9, h9, h⟩ := zbi_inv h
        refine zFr_trans (zFr_mono (frX6_isDown h9) (by simp) (by simp)) ?_
        rcases zif_or h with h | h
        · exact L60 _ _ _ _ h
        · obtain ⟨r_12, S_11, h9, h⟩ := zbi_inv h
          refine zFr_trans (zFr_mono (frX6_tickAfter h9) (by simp) (by simp)) ?_
          exact ih8 _ _ _ _ _ _ h
  exact L8 zF _ _ _ _ _ _ h

set_option maxRecDepth 100000 in
set_option maxHeartbeats 4000000 in
theorem frX5_readLeg {a1 : Int32} {S : zT} {o : zT} (h : fX5_readLeg a1 S = some o) : zFr [76, 78] [] S o := by
  unfold fX5_readLeg at h
  have L19 : ∀ (n19 : Nat) (x1 : Int32) (x2 : Int32) (S : zT), (zfix (fun _ _ _ => none) fX5_readLeg_19 n19) x1 x2 S = some o → zFr [76, 78] [] S o := by
    intro n19
    induction n19 with
    | zero => intro x1 x2 S h; exact zno (show (none : Option zT) = some o from h)
    | succ n19 ih19 =>
      intro x1 x2 S h
      replace h : fX5_readLeg_19 (zfix (fun _ _ _ => none) fX5_readLeg_19 n19) x1 x2 S = some o := h
      unfold fX5_readLeg_19 at h
      have L52 : ∀ (n52 : Nat) (x1 : Int32) (x2 : Int32) (S : zT), (zfix (fun _ _ _ => none) fX5_readLeg_52 n52) x1 x2 S = some o → zFr [76, 78] [] S o := by
        intro n52
        induction n52 with
        | zero => intro x1 x2 S h; exact zno (show (none : Option zT) = some o from h)
        | succ n52 ih52 =>
          intro x1 x2 S h
          replace h : fX5_readLeg_52 (zfix (fun _ _ _ => none) fX5_readLeg_52 n52) x1 x2 S = some o := h
          unfold fX5_readLeg_52 at h
          have L100 : ∀ (x1 : Int32) (x2 : Int32) (S : zT), (fX5_readLeg_100 (zfix (fun _ _ _ => none) fX5_readLeg_52 n52)) x1 x2 S = some o → zFr [76, 78] [] S o := by
            intro x1 x2 S h
            unfold fX5_readLeg_100 at h
            exact ih52 _ _ _ h
          rcases zif_or h with h | h
          · cases h
            exact zFr_rf _ _ _
          · obtain ⟨r_2, S_1, h9, h⟩ := zbi_inv h
            refine zFr_trans (zFr_mono (frX6_isDown h9) (by simp) (by simp)) ?_
            rcases zif_or h with h | h
            · exact L100 _ _ _ h
            · obtain ⟨r_4, S_3, h9, h⟩ := zbi_inv h
              refine zFr_trans (zFr_mono (frX6_tickAhead h9) (by simp) (by simp)) ?_
              obtain ⟨r_6, S_5, h9, h⟩ := zbi_inv h
              refine zFr_trans (zFr_mono (frX6_isDown h9) (by simp) (by simp)) ?_
              rcases zif_or h with h | h
              · obtain ⟨S_7, h9, h⟩ := zbv_inv h
                refine zFr_trans (zFr_mono (frX5_readStance h9) (by simp) (by simp)) ?_
                exact L100 _ _ _ h
              · exact L100 _ _ _ h
      rcases zif_or h with h | h
      · exact L52 zF _ _ _ h
      · obtain ⟨S_8, h9, h⟩ := zbv_inv h
        refine zFr_trans (zFr_mono (frX2_put h9) (by simp) (by simp)) ?_
        exact ih19 _ _ _ h
  rcases zif_or h with h | h
  · obtain ⟨S_9, h9, h⟩ := zbv_inv h
    refine zFr_trans (zFr_mono (frX2_put h9) (by simp) (by simp)) ?_
    exact L19 zF _ _ _ h
  · cases h
    exact zFr_rf _ _ _

set_option maxRecDepth 100000 in
set_option maxHeartbeats 4000000 in
theorem frX5_readGait {S : zT} {o : zT} (h : fX5_readGait S = some o) : zFr [67, 76, 78] [] S o := by
  unfold fX5_readGait at h
  have L7 : ∀ (n7 : Nat) (x1 : Int32) (S : zT), (zfix (fun _ _ => none) fX5_readGait_7 n7) x1 S = some o → zFr [67, 76, 78] [] S o := by
    intro n7
    induction n7 with
    | zero => intro x1 S h; exact zno (show (none : Option zT) = some o from h)
    | succ n7 ih7 =>
      intro x1 S h
      replace h : fX5_readGait_7 (zfix (fun _ _ => none) fX5_readGait_7 n7) x1 S = some o := h
      unfold fX5_readGait_7 at h
      rcases zif_or h with h | h
      · cases h
        exact zFr_rf _ _ _
      · obtain ⟨S_1, h9, h⟩ := zbv_inv h
        refine zFr_trans (zFr_mono (frX5_readLeg h9) (by simp) (by simp)) ?_
        exact ih7 _ _ h
  refine zFr_wi h (by simp) (fun S_2 h => ?_)
  exact L7 zF _ _ h

set_option maxRecDepth 100000 in
set_option maxHeartbeats 4000000 in
theorem frX7_tryOut {S : zT} {o : zT} (h : fX7_tryOut S = some o) : zFr [67, 68, 70, 72, 74, 76, 78] [] S o := by
  unfold fX7_tryOut at h
  obtain ⟨S_1, h9, h⟩ := zbv_inv h
  refine zFr_trans (zFr_mono (frX6_copyFrom h9) (by simp) (by simp)) ?_
  obtain ⟨S_2, h9, h⟩ := zbv_inv h
  refine zFr_trans (zFr_mono (frX5_readGait h9) (by simp) (by simp)) ?_
  cases h
  exact zFr_rf _ _ _

set_option maxRecDepth 100000 in
set_option maxHeartbeats 4000000 in
theorem frX5_twiceY {a1 : Int32} {a2 : Int32} {S : zT} {o : Int32 × zT} (h : fX5_twiceY a1 a2 S = some o) : zFr [] [] S o.2 := by
  unfold fX5_twiceY at h
  obtain ⟨r_2, S_1, h9, h⟩ := zbi_inv h
  refine zFr_trans (zFr_mono (frX2_at h9) (by simp) (by simp)) ?_
  obtain ⟨r_4, S_3, h9, h⟩ := zbi_inv h
  refine zFr_trans (zFr_mono (frX2_at h9) (by simp) (by simp)) ?_
  cases h
  exact zFr_rf _ _ _

set_option maxRecDepth 100000 in
set_option maxHeartbeats 4000000 in
theorem frX7_foot {a1 : Int32} {a2 : Int32} {a3 : Int32} {S : zT} {o : Int32 × zT} (h : fX7_foot a1 a2 a3 S = some o) : zFr [67, 68, 70, 72, 74, 76, 78] [] S o.2 := by
  unfold fX7_foot at h
  obtain ⟨r_2, S_1, h9, h⟩ := zbi_inv h
  refine zFr_trans (zFr_mono (frX6_hasLeg h9) (by simp) (by simp)) ?_
  rcases zif_or h with h | h
  · cases h
    exact zFr_rf _ _ _
  · obtain ⟨r_4, S_3, h9, h⟩ := zbi_inv h
    refine zFr_trans (zFr_mono (frX6_hasTick h9) (by simp) (by simp)) ?_
    rcases zif_or h with h | h
    · cases h
      exact zFr_rf _ _ _
    · obtain ⟨r_6, S_5, h9, h⟩ := zbi_inv h
      refine zFr_trans (zFr_mono (frX7_isWithin h9) (by simp) (by simp)) ?_
      rcases zif_or h with h | h
      · cases h
        exact zFr_rf _ _ _
      · obtain ⟨r_8, S_7, h9, h⟩ := zbi_inv h
        refine zFr_trans (zFr_mono (frX6_isDown h9) (by simp) (by simp)) ?_
        rcases zif_or h with h | h
        · cases h
          exact zFr_rf _ _ _
        · rcases zif_or h with h | h
          · obtain ⟨r_13, S_12, h9, h⟩ := zbi_inv h
            refine zFr_trans (zFr_mono (frX2_at h9) (by simp) (by simp)) ?_
            cases h
            exact zFr_rf _ _ _
          · obtain ⟨S_9, h9, h⟩ := zbv_inv h
            refine zFr_trans (zFr_mono (frX7_tryOut h9) (by simp) (by simp)) ?_
            obtain ⟨r_11, S_10, h9, h⟩ := zbi_inv h
            refine zFr_trans (zFr_mono (frX5_twiceY h9) (by simp) (by simp)) ?_
            cases h
            exact zFr_rf _ _ _

set_option maxRecDepth 100000 in
set_option maxHeartbeats 4000000 in
theorem frX5_isShortHop {a1 : Int32} {S : zT} {o : Int32 × zT} (h : fX5_isShortHop a1 S = some o) : zFr [] [] S o.2 := by
  unfold fX5_isShortHop at h
  have L14 : ∀ (n14 : Nat) (x1 : Int32) (x2 : Int32) (x3 : Int32) (x4 : Int32) (S : zT), (zfix (fun _ _ _ _ _ => none) fX5_isShortHop_14 n14) x1 x2 x3 x4 S = some o → zFr [] [] S o.2 := by
    intro n14
    induction n14 with
    | zero => intro x1 x2 x3 x4 S h; exact zno (show (none : Option (Int32 × zT)) = some o from h)
    | succ n14 ih14 =>
      intro x1 x2 x3 x4 S h
      replace h : fX5_isShortHop_14 (zfix (fun _ _ _ _ _ => none) fX5_isShortHop_14 n14) x1 x2 x3 x4 S = some o := h
      unfold fX5_isShortHop_14 at h
      have L58 : ∀ (x1 : Int32) (x2 : Int32) (S : zT), fX5_isShortHop_58 x1 x2 S = some o → zFr [] [] S o.2 := by
        intro x1 x2 S h
        unfold fX5_isShortHop_58 at h
        have L83 : ∀ (n83 : Nat) (x2 : Int32) (x3 : Int32) (x4 : Int32) (S : zT), (zfix (fun _ _ _ _ => none) fX5_isShortHop_83 n83) x2 x3 x4 S = some o → zFr [] [] S o.2 := by
          intro n83
          induction n83 with
          | zero => intro x2 x3 x4 S h; exact zno (show (none : Option (Int32 × zT)) = some o from h)
          | succ n83 ih83 =>
            intro x2 x3 x4 S h
            replace h : fX5_isShortHop_83 (zfix (fun _ _ _ _ => none) fX5_isShortHop_83 n83) x2 x3 x4 S = some o := h
            unfold fX5_isShortHop_83 at h
            have L127 : ∀ (x2 : Int32) (S : zT), fX5_isShortHop_127 x2 S = some o → zFr [] [] S o.2 := by
              intro x2 S h
              unfold fX5_isShortHop_127 at h
              rcases zif_or h with h | h
              · cases h
                exact zFr_rf _ _ _
              · cases h
                exact zFr_rf _ _ _
            rcases zif_or h with h | h
            · exact L127 _ _ h
            · obtain ⟨r_2, S_1, h9, h⟩ := zbi_inv h
              refine zFr_trans (zFr_mono (frX2_at h9) (by simp) (by simp)) ?_
              rcases zif_or h with h | h
              · obtain ⟨r_4, S_3, h9, h⟩ := zbi_inv h
                refine zFr_trans (zFr_mono (frX6_tickAfter h9) (by simp) (by simp)) ?_
                exact ih83 _ _ _ _ h
              · exact L127 _ _ h
        rcases zif_or h with h | h
        · obtain ⟨r_6, S_5, h9, h⟩ := zbi_inv h
          refine zFr_trans (zFr_mono (frX6_tickAfter h9) (by simp) (by simp)) ?_
          exact L83 zF _ _ _ _ h
        · cases h
          exact zFr_rf _ _ _
      rcases zif_or h with h | h
      · exact L58 _ _ _ h
      · obtain ⟨r_8, S_7, h9, h⟩ := zbi_inv h
        refine zFr_trans (zFr_mono (frX2_at h9) (by simp) (by simp)) ?_
        rcases zif_or h with h | h
        · obtain ⟨r_10, S_9, h9, h⟩ := zbi_inv h
          refine zFr_trans (zFr_mono (frX6_tickAhead h9) (by simp) (by simp)) ?_
          exact ih14 _ _ _ _ _ h
        · exact L58 _ _ _ h
  obtain ⟨r_12, S_11, h9, h⟩ := zbi_inv h
  refine zFr_trans (zFr_mono (frX6_tickAhead h9) (by simp) (by simp)) ?_
  exact L14 zF _ _ _ _ _ h

set_option maxRecDepth 100000 in
set_option maxHeartbeats 4000000 in
theorem frX5_isSound {a1 : Int32} {S : zT} {o : Int32 × zT} (h : fX5_isSound a1 S = some o) : zFr [] [] S o.2 := by
  unfold fX5_isSound at h
  obtain ⟨r_2, S_1, h9, h⟩ := zbi_inv h
  refine zFr_trans (zFr_mono (frX2_at h9) (by simp) (by simp)) ?_
  rcases zif_or h with h | h
  · cases h
    exact zFr_rf _ _ _
  · cases h
    exact zFr_rf _ _ _

set_option maxRecDepth 100000 in
set_option maxHeartbeats 4000000 in
theorem frX5_fitsKind {a1 : Int32} {S : zT} {o : Int32 × zT} (h : fX5_fitsKind a1 S = some o) : zFr [] [] S o.2 := by
  unfold fX5_fitsKind at h
  obtain ⟨r_2, S_1, h9, h⟩ := zbi_inv h
  refine zFr_trans (zFr_mono (frX6_fullSet h9) (by simp) (by simp)) ?_
  rcases zif_or h with h | h
  · rcases zif_or h with h | h
    · cases h
      exact zFr_rf _ _ _
    · cases h
      exact zFr_rf _ _ _
  · cases h
    exact zFr_rf _ _ _

set_option maxRecDepth 100000 in
set_option maxHeartbeats 4000000 in
theorem frX1_drop {b : Nat} {S : zT} {o : zT} (h : fX1_drop b S = some o) : zFr [b] [] S o := by
  unfold fX1_drop at h
  refine zFr_wl h (by simp) (fun S_1 h => ?_)
  refine zFr_wl h (by simp) (fun S_2 h => ?_)
  cases h
  exact zFr_rf _ _ _

set_option maxRecDepth 100000 in
set_option maxHeartbeats 4000000 in
theorem frX4_empty {S : zT} {o : zT} (h : fX4_empty S = some o) : zFr [81, 90, 91] [] S o := by
  unfold fX4_empty at h
  refine zFr_wi h (by simp) (fun S_1 h => ?_)
  refine zFr_wi h (by simp) (fun S_2 h => ?_)
  obtain ⟨S_3, h9, h⟩ := zbv_inv h
  refine zFr_trans (zFr_mono (frX1_drop h9) (by simp) (by simp)) ?_
  obtain ⟨S_4, h9, h⟩ := zbv_inv h
  refine zFr_trans (zFr_mono (frX1_drop h9) (by simp) (by simp)) ?_
  cases h
  exact zFr_rf _ _ _

set_option maxRecDepth 100000 in
set_option maxHeartbeats 4000000 in
theorem frX1_lowerTo {b : Nat} {a1 : Int64} {a3 : Int64} {S : zT} {o : zT} (h : fX1_lowerTo b a1 a3 S = some o) : zFr [b] [] S o := by
  unfold fX1_lowerTo at h
  have L25 : ∀ (x1 : Int64) (x3 : Int64) (S : zT), (fX1_lowerTo_25 b) x1 x3 S = some o → zFr [b] [] S o := by
    intro x1 x3 S h
    unfold fX1_lowerTo_25 at h
    refine zFr_wl h (by simp) (fun S_1 h => ?_)
    refine zFr_wl h (by simp) (fun S_2 h => ?_)
    cases h
    exact zFr_rf _ _ _
  rcases zif_or h with h | h
  · exact L25 _ _ _ h
  · rcases zif_or h with h | h
    · cases h
      exact zFr_rf _ _ _
    · exact L25 _ _ _ h

set_option maxRecDepth 100000 in
set_option maxHeartbeats 4000000 in
theorem frX1_raiseTo {b : Nat} {a1 : Int64} {a3 : Int64} {S : zT} {o : zT} (h : fX1_raiseTo b a1 a3 S = some o) : zFr [b] [] S o := by
  unfold fX1_raiseTo at h
  have L25 : ∀ (x1 : Int64) (x3 : Int64) (S : zT), (fX1_raiseTo_25 b) x1 x3 S = some o → zFr [b] [] S o := by
    intro x1 x3 S h
    unfold fX1_raiseTo_25 at h
    refine zFr_wl h (by simp) (fun S_1 h => ?_)
    refine zFr_wl h (by simp) (fun S_2 h => ?_)
    cases h
    exact zFr_rf _ _ _
  rcases zif_or h with h | h
  · exact L25 _ _ _ h
  · rcases zif_or h with h | h
    · cases h
      exact zFr_rf _ _ _
    · exact L25 _ _ _ h

set_option maxRecDepth 100000 in
set_option maxHeartbeats 4000000 in
theorem frX4_add {a1 : Int32} {a2 : Int32} {S : zT} {o : zT} (h : fX4_add a1 a2 S = some o) : zFr [81, 83, 85, 87, 89, 90, 91] [] S o := by
  unfold fX4_add at h
  rcases zif_or h with h | h
  · rcases zif_or h with h | h
    · obtain ⟨S_1, h9, h⟩ := zbv_inv h
      refine zFr_trans (zFr_mono (frX1_lowerTo h9) (by simp) (by simp)) ?_
      obtain ⟨S_2, h9, h⟩ := zbv_inv h
      refine zFr_trans (zFr_mono (frX1_raiseTo h9) (by simp) (by simp)) ?_
      cases h
      exact zFr_rf _ _ _
    · obtain ⟨S_3, h9, h⟩ := zbv_inv h
      refine zFr_trans (zFr_mono (frX2_put h9) (by simp) (by simp)) ?_
      obtain ⟨S_4, h9, h⟩ := zbv_inv h
      refine zFr_trans (zFr_mono (frX2_put h9) (by simp) (by simp)) ?_
      refine zFr_wi h (by simp) (fun S_5 h => ?_)
      cases h
      exact zFr_rf _ _ _
  · obtain ⟨S_6, h9, h⟩ := zbv_inv h
    refine zFr_trans (zFr_mono (frX2_put h9) (by simp) (by simp)) ?_
    obtain ⟨S_7, h9, h⟩ := zbv_inv h
    refine zFr_trans (zFr_mono (frX2_put h9) (by simp) (by simp)) ?_
    refine zFr_wi h (by simp) (fun S_8 h => ?_)
    cases h
    exact zFr_rf _ _ _

set_option maxRecDepth 100000 in
set_option maxHeartbeats 4000000 in
theorem frX5_gatherFeet {a1 : Int32} {S : zT} {o : zT} (h : fX5_gatherFeet a1 S = some o) : zFr [81, 83, 85, 87, 89, 90, 91] [] S o := by
  unfold fX5_gatherFeet at h
  have L9 : ∀ (n9 : Nat) (x1 : Int32) (x2 : Int32) (S : zT), (zfix (fun _ _ _ => none) fX5_gatherFeet_9 n9) x1 x2 S = some o → zFr [81, 83, 85, 87, 89, 90, 91] [] S o := by
    intro n9
    induction n9 with
    | zero => intro x1 x2 S h; exact zno (show (none : Option zT) = some o from h)
    | succ n9 ih9 =>
      intro x1 x2 S h
      replace h : fX5_gatherFeet_9 (zfix (fun _ _ _ => none) fX5_gatherFeet_9 n9) x1 x2 S = some o := h
      unfold fX5_gatherFeet_9 at h
      have L74 : ∀ (x1 : Int32) (x2 : Int32) (S : zT), (fX5_gatherFeet_74 (zfix (fun _ _ _ => none) fX5_gatherFeet_9 n9)) x1 x2 S = some o → zFr [81, 83, 85, 87, 89, 90, 91] [] S o := by
        intro x1 x2 S h
        unfold fX5_gatherFeet_74 at h
        exact ih9 _ _ _ h
      rcases zif_or h with h | h
      · cases h
        exact zFr_rf _ _ _
      · obtain ⟨r_2, S_1, h9, h⟩ := zbi_inv h
        refine zFr_trans (zFr_mono (frX6_isDown h9) (by simp) (by simp)) ?_
        rcases zif_or h with h | h
        · exact L74 _ _ _ h
        · obtain ⟨r_4, S_3, h9, h⟩ := zbi_inv h
          refine zFr_trans (zFr_mono (frX2_at h9) (by simp) (by simp)) ?_
          obtain ⟨r_6, S_5, h9, h⟩ := zbi_inv h
          refine zFr_trans (zFr_mono (frX5_twiceY h9) (by simp) (by simp)) ?_
          obtain ⟨S_7, h9, h⟩ := zbv_inv h
          refine zFr_trans (zFr_mono (frX4_add h9) (by simp) (by simp)) ?_
          exact L74 _ _ _ h
  obtain ⟨S_8, h9, h⟩ := zbv_inv h
  refine zFr_trans (zFr_mono (frX4_empty h9) (by simp) (by simp)) ?_
  exact L9 zF _ _ _ h

set_option maxRecDepth 100000 in
set_option maxHeartbeats 4000000 in
theorem frX1_isNone {b : Nat} {S : zT} {o : Int32 × zT} (h : fX1_isNone b S = some o) : zFr [] [] S o.2 := by
  unfold fX1_isNone at h
  rcases zif_or h with h | h
  · cases h
    exact zFr_rf _ _ _
  · cases h
    exact zFr_rf _ _ _

set_option maxRecDepth 100000 in
set_option maxHeartbeats 4000000 in
theorem frX4_heightAbove {a1 : Int32} {a2 : Int32} {S : zT} {o : Int32 × zT} (h : fX4_heightAbove a1 a2 S = some o) : zFr [] [] S o.2 := by
  unfold fX4_heightAbove at h
  obtain ⟨r_2, S_1, h9, h⟩ := zbi_inv h
  refine zFr_trans (zFr_mono (frX2_at h9) (by simp) (by simp)) ?_
  obtain ⟨r_4, S_3, h9, h⟩ := zbi_inv h
  refine zFr_trans (zFr_mono (frX2_at h9) (by simp) (by simp)) ?_
  obtain ⟨r_6, S_5, h9, h⟩ := zbi_inv h
  refine zFr_trans (zFr_mono (frX2_at h9) (by simp) (by simp)) ?_
  obtain ⟨r_8, S_7, h9, h⟩ := zbi_inv h
  refine zFr_trans (zFr_mono (frX2_at h9) (by simp) (by simp)) ?_
  cases h
  exact zFr_rf _ _ _

set_option maxRecDepth 100000 in
set_option maxHeartbeats 4000000 in
theorem frX4_holdsMiddle {S : zT} {o : Int32 × zT} (h : fX4_holdsMiddle S = some o) : zFr [] [] S o.2 := by
  unfold fX4_holdsMiddle at h
  have L27 : ∀ (t0 : Int32) (S : zT), fX4_holdsMiddle_27 t0 S = some o → zFr [] [] S o.2 := by
    intro t0 S h
    unfold fX4_holdsMiddle_27 at h
    have L55 : ∀ (x1 : Int32) (t0 : Int32) (S : zT), fX4_holdsMiddle_55 x1 t0 S = some o → zFr [] [] S o.2 := by
      intro x1 t0 S h
      unfold fX4_holdsMiddle_55 at h
      have L58 : ∀ (n58 : Nat) (x1 : Int32) (x2 : Int32) (x3 : Int32) (S : zT), (zfix (fun _ _ _ _ => none) fX4_holdsMiddle_58 n58) x1 x2 x3 S = some o → zFr [] [] S o.2 := by
        intro n58
        induction n58 with
        | zero => intro x1 x2 x3 S h; exact zno (show (none : Option (Int32 × zT)) = some o from h)
        | succ n58 ih58 =>
          intro x1 x2 x3 S h
          replace h : fX4_holdsMiddle_58 (zfix (fun _ _ _ _ => none) fX4_holdsMiddle_58 n58) x1 x2 x3 S = some o := h
          unfold fX4_holdsMiddle_58 at h
          have L137 : ∀ (x1 : Int32) (x2 : Int32) (S : zT), fX4_holdsMiddle_137 x1 x2 S = some o → zFr [] [] S o.2 := by
            intro x1 x2 S h
            unfold fX4_holdsMiddle_137 at h
            rcases zif_or h with h | h
            · cases h
              exact zFr_rf _ _ _
            · rcases zif_or h with h | h
              · cases h
                exact zFr_rf _ _ _
              · cases h
                exact zFr_rf _ _ _
          have L74 : ∀ (x1 : Int32) (x2 : Int32) (x3 : Int32) (S : zT), (fX4_holdsMiddle_74 (zfix (fun _ _ _ _ => none) fX4_holdsMiddle_58 n58)) x1 x2 x3 S = some o → zFr [] [] S o.2 := by
            intro x1 x2 x3 S h
            unfold fX4_holdsMiddle_74 at h
            have L77 : ∀ (n77 : Nat) (x1 : Int32) (x2 : Int32) (x3 : Int32) (x4 : Int32) (S : zT), (zfix (fun _ _ _ _ _ => none) (fX4_holdsMiddle_77 (zfix (fun _ _ _ _ => none) fX4_holdsMiddle_58 n58)) n77) x1 x2 x3 x4 S = some o → zFr [] [] S o.2 := by
              intro n77
              induction n77 with
              | zero => intro x1 x2 x3 x4 S h; exact zno (show (none : Option (Int32 × zT)) = some o from h)
              | succ n77 ih77 =>
                intro x1 x2 x3 x4 S h
                replace h : fX4_holdsMiddle_77 (zfix (fun _ _ _ _ => none) fX4_holdsMiddle_58 n58) (zfix (fun _ _ _ _ _ => none) (fX4_holdsMiddle_77 (zfix (fun _ _ _ _ => none) fX4_holdsMiddle_58 n58)) n77) x1 x2 x3 x4 S = some o := h
                unfold fX4_holdsMiddle_77 at h
                have L109 : ∀ (x2 : Int32) (x3 : Int32) (x4 : Int32) (x5 : Int32) (t0 : Int32) (S : zT), (fX4_holdsMiddle_109 (zfix (fun _ _ _ _ _ => none) (fX4_holdsMiddle_77 (zfix (fun _ _ _ _ => none) fX4_holdsMiddle_58 n58)) n77)) x2 x3 x4 x5 t0 S = some o → zFr [] [] S o.2 := by
                  intro x2 x3 x4 x5 t0 S h
                  unfold fX4_holdsMiddle_109 at h
                  have L124 : ∀ (x1 : Int32) (x3 : Int32) (x4 : Int32) (t0 : Int32) (S : zT), (fX4_holdsMiddle_124 (zfix (fun _ _ _ _ _ => none) (fX4_holdsMiddle_77 (zfix (fun _ _ _ _ => none) fX4_holdsMiddle_58 n58)) n77)) x1 x3 x4 t0 S = some o → zFr [] [] S o.2 := by
                    intro x1 x3 x4 t0 S h
                    unfold fX4_holdsMiddle_124 at h
                    exact ih77 _ _ _ _ _ h
                  have L119 : ∀ (x1 : Int32) (x3 : Int32) (x4 : Int32) (S : zT), (fX4_holdsMiddle_119 (fX4_holdsMiddle_124 (zfix (fun _ _ _ _ _ => none) (fX4_holdsMiddle_77 (zfix (fun _ _ _ _ => none) fX4_holdsMiddle_58 n58)) n77))) x1 x3 x4 S = some o → zFr [] [] S o.2 := by
                    intro x1 x3 x4 S h
                    unfold fX4_holdsMiddle_119 at h
                    exact L124 _ _ _ _ _ h
                  rcases zif_or h with h | h
                  · rcases zif_or h with h | h
                    · exact L124 _ _ _ _ _ h
                    · exact L119 _ _ _ _ h
                  · exact L119 _ _ _ _ h
                have L104 : ∀ (x2 : Int32) (x3 : Int32) (x4 : Int32) (x5 : Int32) (S : zT), (fX4_holdsMiddle_104 (fX4_holdsMiddle_109 (zfix (fun _ _ _ _ _ => none) (fX4_holdsMiddle_77 (zfix (fun _ _ _ _ => none) fX4_holdsMiddle_58 n58)) n77))) x2 x3 x4 x5 S = some o → zFr [] [] S o.2 := by
                  intro x2 x3 x4 x5 S h
                  unfold fX4_holdsMiddle_104 at h
                  exact L109 _ _ _ _ _ _ h
                rcases zif_or h with h | h
                · exact ih58 _ _ _ _ h
                · obtain ⟨r_2, S_1, h9, h⟩ := zbi_inv h
                  refine zFr_trans (zFr_mono (frX4_heightAbove h9) (by simp) (by simp)) ?_
                  rcases zif_or h with h | h
                  · rcases zif_or h with h | h
                    · exact L109 _ _ _ _ _ _ h
                    · exact L104 _ _ _ _ _ h
                  · exact L104 _ _ _ _ _ h
            exact L77 zF _ _ _ _ _ h
          rcases zif_or h with h | h
          · exact L137 _ _ _ h
          · rcases zif_or h with h | h
            · exact L74 _ _ _ _ h
            · rcases zif_or h with h | h
              · exact L74 _ _ _ _ h
              · exact L137 _ _ _ h
      exact L58 zF _ _ _ _ h
    have L54 : ∀ (x1 : Int32) (S : zT), (fX4_holdsMiddle_54 fX4_holdsMiddle_55) x1 S = some o → zFr [] [] S o.2 := by
      intro x1 S h
      unfold fX4_holdsMiddle_54 at h
      exact L55 _ _ _ h
    obtain ⟨r_4, S_3, h9, h⟩ := zbi_inv h
    refine zFr_trans (zFr_mono (frX1_isNone h9) (by simp) (by simp)) ?_
    rcases zif_or h with h | h
    · rcases zif_or h with h | h
      · exact L54 _ _ h
      · exact L55 _ _ _ h
    · exact L54 _ _ h
  have L26 : ∀ (S : zT), (fX4_holdsMiddle_26 fX4_holdsMiddle_27) S = some o → zFr [] [] S o.2 := by
    intro S h
    unfold fX4_holdsMiddle_26 at h
    exact L27 _ _ h
  obtain ⟨r_6, S_5, h9, h⟩ := zbi_inv h
  refine zFr_trans (zFr_mono (frX1_isNone h9) (by simp) (by simp)) ?_
  rcases zif_or h with h | h
  · rcases zif_or h with h | h
    · exact L26 _ h
    · exact L27 _ _ h
  · exact L26 _ h

set_option maxRecDepth 100000 in
set_option maxHeartbeats 4000000 in
theorem frX5_isSteadyAt {a1 : Int32} {S : zT} {o : Int32 × zT} (h : fX5_isSteadyAt a1 S = some o) : zFr [81, 83, 85, 87, 89, 90, 91] [] S o.2 := by
  unfold fX5_isSteadyAt at h
  obtain ⟨r_2, S_1, h9, h⟩ := zbi_inv h
  refine zFr_trans (zFr_mono (frX2_at h9) (by simp) (by simp)) ?_
  rcases zif_or h with h | h
  · rcases zif_or h with h | h
    · obtain ⟨r_11, S_10, h9, h⟩ := zbi_inv h
      refine zFr_trans (zFr_mono (frX5_isShortHop h9) (by simp) (by simp)) ?_
      rcases zif_or h with h | h
      · cases h
        exact zFr_rf _ _ _
      · cases h
        exact zFr_rf _ _ _
    · cases h
      exact zFr_rf _ _ _
  · rcases zif_or h with h | h
    · obtain ⟨r_4, S_3, h9, h⟩ := zbi_inv h
      refine zFr_trans (zFr_mono (frX5_fitsKind h9) (by simp) (by simp)) ?_
      rcases zif_or h with h | h
      · cases h
        exact zFr_rf _ _ _
      · obtain ⟨S_5, h9, h⟩ := zbv_inv h
        refine zFr_trans (zFr_mono (frX5_gatherFeet h9) (by simp) (by simp)) ?_
        obtain ⟨r_7, S_6, h9, h⟩ := zbi_inv h
        refine zFr_trans (zFr_mono (frX4_holdsMiddle h9) (by simp) (by simp)) ?_
        replace h := (zif_g h).2
        cases h
        exact zFr_rf _ _ _
    · obtain ⟨r_9, S_8, h9, h⟩ := zbi_inv h
      refine zFr_trans (zFr_mono (frX5_isSound h9) (by simp) (by simp)) ?_
      replace h := (zif_g h).2
      cases h
      exact zFr_rf _ _ _

set_option maxRecDepth 100000 in
set_option maxHeartbeats 4000000 in
theorem frX7_stands {a1 : Int32} {S : zT} {o : Int32 × zT} (h : fX7_stands a1 S = some o) : zFr [67, 68, 70, 72, 74, 76, 78, 81, 83, 85, 87, 89, 90, 91] [] S o.2 := by
  unfold fX7_stands at h
  obtain ⟨r_2, S_1, h9, h⟩ := zbi_inv h
  refine zFr_trans (zFr_mono (frX6_hasTick h9) (by simp) (by simp)) ?_
  rcases zif_or h with h | h
  · cases h
    exact zFr_rf _ _ _
  · obtain ⟨S_3, h9, h⟩ := zbv_inv h
    refine zFr_trans (zFr_mono (frX7_tryOut h9) (by simp) (by simp)) ?_
    obtain ⟨r_5, S_4, h9, h⟩ := zbi_inv h
    refine zFr_trans (zFr_mono (frX5_isSteadyAt h9) (by simp) (by simp)) ?_
    rcases zif_or h with h | h
    · cases h
      exact zFr_rf _ _ _
    · cases h
      exact zFr_rf _ _ _

set_option maxRecDepth 100000 in
set_option maxHeartbeats 4000000 in
theorem frX5_firstFall {S : zT} {o : Int32 × zT} (h : fX5_firstFall S = some o) : zFr [81, 83, 85, 87, 89, 90, 91] [] S o.2 := by
  unfold fX5_firstFall at h
  have L2 : ∀ (n2 : Nat) (x1 : Int32) (S : zT), (zfix (fun _ _ => none) fX5_firstFall_2 n2) x1 S = some o → zFr [81, 83, 85, 87, 89, 90, 91] [] S o.2 := by
    intro n2
    induction n2 with
    | zero => intro x1 S h; exact zno (show (none : Option (Int32 × zT)) = some o from h)
    | succ n2 ih2 =>
      intro x1 S h
      replace h : fX5_firstFall_2 (zfix (fun _ _ => none) fX5_firstFall_2 n2) x1 S = some o := h
      unfold fX5_firstFall_2 at h
      rcases zif_or h with h | h
      · cases h
        exact zFr_rf _ _ _
      · obtain ⟨r_2, S_1, h9, h⟩ := zbi_inv h
        refine zFr_trans (zFr_mono (frX5_isSteadyAt h9) (by simp) (by simp)) ?_
        rcases zif_or h with h | h
        · cases h
          exact zFr_rf _ _ _
        · exact ih2 _ _ h
  exact L2 zF _ _ h

set_option maxRecDepth 100000 in
set_option maxHeartbeats 4000000 in
theorem frX5_firstBeyondReach {S : zT} {o : Int32 × zT} (h : fX5_firstBeyondReach S = some o) : zFr [] [] S o.2 := by
  unfold fX5_firstBeyondReach at h
  have L2 : ∀ (n2 : Nat) (x1 : Int32) (S : zT), (zfix (fun _ _ => none) fX5_firstBeyondReach_2 n2) x1 S = some o → zFr [] [] S o.2 := by
    intro n2
    induction n2 with
    | zero => intro x1 S h; exact zno (show (none : Option (Int32 × zT)) = some o from h)
    | succ n2 ih2 =>
      intro x1 S h
      replace h : fX5_firstBeyondReach_2 (zfix (fun _ _ => none) fX5_firstBeyondReach_2 n2) x1 S = some o := h
      unfold fX5_firstBeyondReach_2 at h
      rcases zif_or h with h | h
      · cases h
        exact zFr_rf _ _ _
      · obtain ⟨r_2, S_1, h9, h⟩ := zbi_inv h
        refine zFr_trans (zFr_mono (frX2_at h9) (by simp) (by simp)) ?_
        rcases zif_or h with h | h
        · exact ih2 _ _ h
        · cases h
          exact zFr_rf _ _ _
  exact L2 zF _ _ h

set_option maxRecDepth 100000 in
set_option maxHeartbeats 4000000 in
theorem frX5_isSteady {S : zT} {o : Int32 × zT} (h : fX5_isSteady S = some o) : zFr [81, 83, 85, 87, 89, 90, 91] [] S o.2 := by
  unfold fX5_isSteady at h
  obtain ⟨r_2, S_1, h9, h⟩ := zbi_inv h
  refine zFr_trans (zFr_mono (frX5_firstFall h9) (by simp) (by simp)) ?_
  rcases zif_or h with h | h
  · obtain ⟨r_4, S_3, h9, h⟩ := zbi_inv h
    refine zFr_trans (zFr_mono (frX5_firstBeyondReach h9) (by simp) (by simp)) ?_
    rcases zif_or h with h | h
    · cases h
      exact zFr_rf _ _ _
    · cases h
      exact zFr_rf _ _ _
  · cases h
    exact zFr_rf _ _ _

set_option maxRecDepth 100000 in
set_option maxHeartbeats 4000000 in
theorem frX7_walks {S : zT} {o : Int32 × zT} (h : fX7_walks S = some o) : zFr [67, 68, 70, 72, 74, 76, 78, 81, 83, 85, 87, 89, 90, 91] [] S o.2 := by
  unfold fX7_walks at h
  obtain ⟨S_1, h9, h⟩ := zbv_inv h
  refine zFr_trans (zFr_mono (frX7_tryOut h9) (by simp) (by simp)) ?_
  obtain ⟨r_3, S_2, h9, h⟩ := zbi_inv h
  refine zFr_trans (zFr_mono (frX5_isSteady h9) (by simp) (by simp)) ?_
  replace h := (zif_g h).2
  cases h
  exact zFr_rf _ _ _

set_option maxRecDepth 100000 in
set_option maxHeartbeats 4000000 in
theorem frX7_why {S : zT} {o : Int32 × zT} (h : fX7_why S = some o) : zFr [67, 68, 70, 72, 74, 76, 78, 81, 83, 85, 87, 89, 90, 91] [] S o.2 := by
  unfold fX7_why at h
  obtain ⟨S_1, h9, h⟩ := zbv_inv h
  refine zFr_trans (zFr_mono (frX7_tryOut h9) (by simp) (by simp)) ?_
  obtain ⟨r_3, S_2, h9, h⟩ := zbi_inv h
  refine zFr_trans (zFr_mono (frX5_firstFall h9) (by simp) (by simp)) ?_
  rcases zif_or h with h | h
  · obtain ⟨r_5, S_4, h9, h⟩ := zbi_inv h
    refine zFr_trans (zFr_mono (frX5_firstBeyondReach h9) (by simp) (by simp)) ?_
    rcases zif_or h with h | h
    · cases h
      exact zFr_rf _ _ _
    · cases h
      exact zFr_rf _ _ _
  · cases h
    exact zFr_rf _ _ _

set_option maxRecDepth 100000 in
set_option maxHeartbeats 4000000 in
theorem frX4_measure {S : zT} {o : zT} (h : fX4_measure S = some o) : zFr [90, 91, 92] [] S o := by
  unfold fX4_measure at h
  have L2 : ∀ (n2 : Nat) (x1 : Int32) (S : zT), (zfix (fun _ _ => none) fX4_measure_2 n2) x1 S = some o → zFr [90, 91, 92] [] S o := by
    intro n2
    induction n2 with
    | zero => intro x1 S h; exact zno (show (none : Option zT) = some o from h)
    | succ n2 ih2 =>
      intro x1 S h
      replace h : fX4_measure_2 (zfix (fun _ _ => none) fX4_measure_2 n2) x1 S = some o := h
      unfold fX4_measure_2 at h
      have L12 : ∀ (n12 : Nat) (x1 : Int32) (x2 : Int32) (S : zT), (zfix (fun _ _ _ => none) (fX4_measure_12 (zfix (fun _ _ => none) fX4_measure_2 n2)) n12) x1 x2 S = some o → zFr [90, 91, 92] [] S o := by
        intro n12
        induction n12 with
        | zero => intro x1 x2 S h; exact zno (show (none : Option zT) = some o from h)
        | succ n12 ih12 =>
          intro x1 x2 S h
          replace h : fX4_measure_12 (zfix (fun _ _ => none) fX4_measure_2 n2) (zfix (fun _ _ _ => none) (fX4_measure_12 (zfix (fun _ _ => none) fX4_measure_2 n2)) n12) x1 x2 S = some o := h
          unfold fX4_measure_12 at h
          rcases zif_or h with h | h
          · exact ih2 _ _ h
          · obtain ⟨r_2, S_1, h9, h⟩ := zbi_inv h
            refine zFr_trans (zFr_mono (frX4_heightAbove h9) (by simp) (by simp)) ?_
            obtain ⟨r_4, S_3, h9, h⟩ := zbi_inv h
            refine zFr_trans (zFr_mono (frX2_at h9) (by simp) (by simp)) ?_
            obtain ⟨r_6, S_5, h9, h⟩ := zbi_inv h
            refine zFr_trans (zFr_mono (frX2_at h9) (by simp) (by simp)) ?_
            obtain ⟨S_7, h9, h⟩ := zbv_inv h
            refine zFr_trans (zFr_mono (frX1_lowerTo h9) (by simp) (by simp)) ?_
            obtain ⟨S_8, h9, h⟩ := zbv_inv h
            refine zFr_trans (zFr_mono (frX1_raiseTo h9) (by simp) (by simp)) ?_
            exact ih12 _ _ _ h
      rcases zif_or h with h | h
      · obtain ⟨S_9, h9, h⟩ := zbv_inv h
        refine zFr_trans (zFr_mono (frX1_drop h9) (by simp) (by simp)) ?_
        obtain ⟨r_11, S_10, h9, h⟩ := zbi_inv h
        refine zFr_trans (zFr_mono (frX1_isNone h9) (by simp) (by simp)) ?_
        rcases zif_or h with h | h
        · obtain ⟨S_12, h9, h⟩ := zbv_inv h
          refine zFr_trans (zFr_mono (frX1_lowerTo h9) (by simp) (by simp)) ?_
          obtain ⟨S_13, h9, h⟩ := zbv_inv h
          refine zFr_trans (zFr_mono (frX1_lowerTo h9) (by simp) (by simp)) ?_
          cases h
          exact zFr_rf _ _ _
        · cases h
          exact zFr_rf _ _ _
      · exact L12 zF _ _ _ h
  exact L2 zF _ _ h

set_option maxRecDepth 100000 in
set_option maxHeartbeats 4000000 in
theorem frX5_marginAt {a1 : Int32} {S : zT} {o : zT} (h : fX5_marginAt a1 S = some o) : zFr [81, 83, 85, 87, 89, 90, 91, 92] [] S o := by
  unfold fX5_marginAt at h
  obtain ⟨S_1, h9, h⟩ := zbv_inv h
  refine zFr_trans (zFr_mono (frX5_gatherFeet h9) (by simp) (by simp)) ?_
  obtain ⟨S_2, h9, h⟩ := zbv_inv h
  refine zFr_trans (zFr_mono (frX4_measure h9) (by simp) (by simp)) ?_
  cases h
  exact zFr_rf _ _ _

set_option maxRecDepth 100000 in
set_option maxHeartbeats 4000000 in
theorem frX1_shorten {b : Nat} {S : zT} {o : zT} (h : fX1_shorten b S = some o) : zFr [b] [] S o := by
  unfold fX1_shorten at h
  have L16 : ∀ (n16 : Nat) (x1 : Int64) (x3 : Int64) (x5 : Int32) (S : zT), (zfix (fun _ _ _ _ => none) (fX1_shorten_16 b) n16) x1 x3 x5 S = some o → zFr [b] [] S o := by
    intro n16
    induction n16 with
    | zero => intro x1 x3 x5 S h; exact zno (show (none : Option zT) = some o from h)
    | succ n16 ih16 =>
      intro x1 x3 x5 S h
      replace h : fX1_shorten_16 b (zfix (fun _ _ _ _ => none) (fX1_shorten_16 b) n16) x1 x3 x5 S = some o := h
      unfold fX1_shorten_16 at h
      have L45 : ∀ (x1 : Int64) (S : zT), (fX1_shorten_45 b) x1 S = some o → zFr [b] [] S o := by
        intro x1 S h
        unfold fX1_shorten_45 at h
        rcases zif_or h with h | h
        · cases h
          exact zFr_rf _ _ _
        · replace h := (zif_g h).2
          refine zFr_wl h (by simp) (fun S_1 h => ?_)
          replace h := (zif_g h).2
          refine zFr_wl h (by simp) (fun S_2 h => ?_)
          cases h
          exact zFr_rf _ _ _
      rcases zif_or h with h | h
      · exact L45 _ _ h
      · rcases zif_or h with h | h
        · exact L45 _ _ h
        · replace h := (zif_g h).2
          exact ih16 _ _ _ _ h
  exact L16 zF _ _ _ _ h

set_option maxRecDepth 100000 in
set_option maxHeartbeats 4000000 in
theorem frX7_partOf {b0 : Nat} {a1 : Int32} {S : zT} {o : Int64 × zT} (h : fX7_partOf b0 a1 S = some o) : zFr [b0] [] S o.2 := by
  unfold fX7_partOf at h
  obtain ⟨r_2, S_1, h9, h⟩ := zbi_inv h
  refine zFr_trans (zFr_mono (frX1_isNone h9) (by simp) (by simp)) ?_
  rcases zif_or h with h | h
  · obtain ⟨S_3, h9, h⟩ := zbv_inv h
    refine zFr_trans (zFr_mono (frX1_shorten h9) (by simp) (by simp)) ?_
    rcases zif_or h with h | h
    · cases h
      exact zFr_rf _ _ _
    · cases h
      exact zFr_rf _ _ _
  · cases h
    exact zFr_rf _ _ _

set_option maxRecDepth 100000 in
set_option maxHeartbeats 4000000 in
theorem frX7_margin {a1 : Int32} {a2 : Int32} {S : zT} {o : Int64 × zT} (h : fX7_margin a1 a2 S = some o) : zFr [67, 68, 70, 72, 74, 76, 78, 81, 83, 85, 87, 89, 90, 91, 92] [] S o.2 := by
  unfold fX7_margin at h
  obtain ⟨r_2, S_1, h9, h⟩ := zbi_inv h
  refine zFr_trans (zFr_mono (frX6_hasTick h9) (by simp) (by simp)) ?_
  rcases zif_or h with h | h
  · cases h
    exact zFr_rf _ _ _
  · obtain ⟨r_4, S_3, h9, h⟩ := zbi_inv h
    refine zFr_trans (zFr_mono (frX7_isWithin h9) (by simp) (by simp)) ?_
    rcases zif_or h with h | h
    · cases h
      exact zFr_rf _ _ _
    · obtain ⟨S_5, h9, h⟩ := zbv_inv h
      refine zFr_trans (zFr_mono (frX7_tryOut h9) (by simp) (by simp)) ?_
      obtain ⟨S_6, h9, h⟩ := zbv_inv h
      refine zFr_trans (zFr_mono (frX5_marginAt h9) (by simp) (by simp)) ?_
      obtain ⟨r_8, S_7, h9, h⟩ := zbl_inv h
      refine zFr_trans (zFr_mono (frX7_partOf h9) (by simp) (by simp)) ?_
      cases h
      exact zFr_rf _ _ _

set_option maxRecDepth 100000 in
set_option maxHeartbeats 4000000 in
theorem frX1_isLessThan {b : Nat} {b1 : Nat} {S : zT} {o : Int32 × zT} (h : fX1_isLessThan b b1 S = some o) : zFr [] [] S o.2 := by
  unfold fX1_isLessThan at h
  rcases zif_or h with h | h
  · cases h
    exact zFr_rf _ _ _
  · cases h
    exact zFr_rf _ _ _

set_option maxRecDepth 100000 in
set_option maxHeartbeats 4000000 in
theorem frX1_copyFrom {b : Nat} {b1 : Nat} {S : zT} {o : zT} (h : fX1_copyFrom b b1 S = some o) : zFr [b] [] S o := by
  unfold fX1_copyFrom at h
  refine zFr_wl h (by simp) (fun S_1 h => ?_)
  refine zFr_wl h (by simp) (fun S_2 h => ?_)
  cases h
  exact zFr_rf _ _ _

set_option maxRecDepth 100000 in
set_option maxHeartbeats 4000000 in
theorem frX5_findLeast {S : zT} {o : Int32 × zT} (h : fX5_findLeast S = some o) : zFr [81, 83, 85, 87, 89, 90, 91, 92, 93] [] S o.2 := by
  unfold fX5_findLeast at h
  have L4 : ∀ (n4 : Nat) (x1 : Int32) (x2 : Int32) (S : zT), (zfix (fun _ _ _ => none) fX5_findLeast_4 n4) x1 x2 S = some o → zFr [81, 83, 85, 87, 89, 90, 91, 92, 93] [] S o.2 := by
    intro n4
    induction n4 with
    | zero => intro x1 x2 S h; exact zno (show (none : Option (Int32 × zT)) = some o from h)
    | succ n4 ih4 =>
      intro x1 x2 S h
      replace h : fX5_findLeast_4 (zfix (fun _ _ _ => none) fX5_findLeast_4 n4) x1 x2 S = some o := h
      unfold fX5_findLeast_4 at h
      have L70 : ∀ (x1 : Int32) (x2 : Int32) (S : zT), (fX5_findLeast_70 (zfix (fun _ _ _ => none) fX5_findLeast_4 n4)) x1 x2 S = some o → zFr [81, 83, 85, 87, 89, 90, 91, 92, 93] [] S o.2 := by
        intro x1 x2 S h
        unfold fX5_findLeast_70 at h
        exact ih4 _ _ _ h
      have L60 : ∀ (x2 : Int32) (S : zT), (fX5_findLeast_60 (fX5_findLeast_70 (zfix (fun _ _ _ => none) fX5_findLeast_4 n4))) x2 S = some o → zFr [81, 83, 85, 87, 89, 90, 91, 92, 93] [] S o.2 := by
        intro x2 S h
        unfold fX5_findLeast_60 at h
        obtain ⟨S_1, h9, h⟩ := zbv_inv h
        refine zFr_trans (zFr_mono (frX1_copyFrom h9) (by simp) (by simp)) ?_
        exact L70 _ _ _ h
      rcases zif_or h with h | h
      · cases h
        exact zFr_rf _ _ _
      · obtain ⟨r_3, S_2, h9, h⟩ := zbi_inv h
        refine zFr_trans (zFr_mono (frX2_at h9) (by simp) (by simp)) ?_
        rcases zif_or h with h | h
        · exact L70 _ _ _ h
        · obtain ⟨S_4, h9, h⟩ := zbv_inv h
          refine zFr_trans (zFr_mono (frX5_marginAt h9) (by simp) (by simp)) ?_
          obtain ⟨r_6, S_5, h9, h⟩ := zbi_inv h
          refine zFr_trans (zFr_mono (frX1_isNone h9) (by simp) (by simp)) ?_
          rcases zif_or h with h | h
          · rcases zif_or h with h | h
            · exact L60 _ _ h
            · obtain ⟨r_8, S_7, h9, h⟩ := zbi_inv h
              refine zFr_trans (zFr_mono (frX1_isLessThan h9) (by simp) (by simp)) ?_
              rcases zif_or h with h | h
              · exact L70 _ _ _ h
              · exact L60 _ _ h
          · cases h
            exact zFr_rf _ _ _
  exact L4 zF _ _ _ h

set_option maxRecDepth 100000 in
set_option maxHeartbeats 4000000 in
theorem frX7_worst {a1 : Int32} {S : zT} {o : Int64 × zT} (h : fX7_worst a1 S = some o) : zFr [67, 68, 70, 72, 74, 76, 78, 81, 83, 85, 87, 89, 90, 91, 92, 93] [] S o.2 := by
  unfold fX7_worst at h
  obtain ⟨r_2, S_1, h9, h⟩ := zbi_inv h
  refine zFr_trans (zFr_mono (frX7_isWithin h9) (by simp) (by simp)) ?_
  rcases zif_or h with h | h
  · cases h
    exact zFr_rf _ _ _
  · obtain ⟨S_3, h9, h⟩ := zbv_inv h
    refine zFr_trans (zFr_mono (frX7_tryOut h9) (by simp) (by simp)) ?_
    obtain ⟨r_5, S_4, h9, h⟩ := zbi_inv h
    refine zFr_trans (zFr_mono (frX5_findLeast h9) (by simp) (by simp)) ?_
    rcases zif_or h with h | h
    · cases h
      exact zFr_rf _ _ _
    · rcases zif_or h with h | h
      · cases h
        exact zFr_rf _ _ _
      · obtain ⟨r_7, S_6, h9, h⟩ := zbl_inv h
        refine zFr_trans (zFr_mono (frX7_partOf h9) (by simp) (by simp)) ?_
        cases h
        exact zFr_rf _ _ _

set_option maxRecDepth 100000 in
set_option maxHeartbeats 4000000 in
theorem frX7_fastest {S : zT} {o : Int32 × zT} (h : fX7_fastest S = some o) : zFr [67, 68, 70, 72, 74, 76, 78, 81, 83, 85, 87, 89, 90, 91] [] S o.2 := by
  unfold fX7_fastest at h
  have L7 : ∀ (n7 : Nat) (x1 : Int32) (S : zT), (zfix (fun _ _ => none) fX7_fastest_7 n7) x1 S = some o → zFr [67, 68, 70, 72, 74, 76, 78, 81, 83, 85, 87, 89, 90, 91] [] S o.2 := by
    intro n7
    induction n7 with
    | zero => intro x1 S h; exact zno (show (none : Option (Int32 × zT)) = some o from h)
    | succ n7 ih7 =>
      intro x1 S h
      replace h : fX7_fastest_7 (zfix (fun _ _ => none) fX7_fastest_7 n7) x1 S = some o := h
      unfold fX7_fastest_7 at h
      rcases zif_or h with h | h
      · cases h
        exact zFr_rf _ _ _
      · refine zFr_wi h (by simp) (fun S_1 h => ?_)
        obtain ⟨r_3, S_2, h9, h⟩ := zbi_inv h
        refine zFr_trans (zFr_mono (frX5_isSteady h9) (by simp) (by simp)) ?_
        rcases zif_or h with h | h
        · exact ih7 _ _ h
        · cases h
          exact zFr_rf _ _ _
  obtain ⟨S_4, h9, h⟩ := zbv_inv h
  refine zFr_trans (zFr_mono (frX7_tryOut h9) (by simp) (by simp)) ?_
  exact L7 zF _ _ h

set_option maxRecDepth 100000 in
set_option maxHeartbeats 4000000 in
theorem frX7_rowsOf {a0 : Int32} {a1 : Int32} {S : zT} {o : Int32 × zT} (h : fX7_rowsOf a0 a1 S = some o) : zFr [] [] S o.2 := by
  unfold fX7_rowsOf at h
  have L4 : ∀ (n4 : Nat) (x0 : Int32) (x1 : Int32) (x2 : Int32) (x3 : Int32) (S : zT), (zfix (fun _ _ _ _ _ => none) fX7_rowsOf_4 n4) x0 x1 x2 x3 S = some o → zFr [] [] S o.2 := by
    intro n4
    induction n4 with
    | zero => intro x0 x1 x2 x3 S h; exact zno (show (none : Option (Int32 × zT)) = some o from h)
    | succ n4 ih4 =>
      intro x0 x1 x2 x3 S h
      replace h : fX7_rowsOf_4 (zfix (fun _ _ _ _ _ => none) fX7_rowsOf_4 n4) x0 x1 x2 x3 S = some o := h
      unfold fX7_rowsOf_4 at h
      rcases zif_or h with h | h
      · cases h
        exact zFr_rf _ _ _
      · exact ih4 _ _ _ _ _ h
  exact L4 zF _ _ _ _ _ h

set_option maxRecDepth 100000 in
set_option maxHeartbeats 4000000 in
theorem frX7_areTold {a0 : Int32} {a1 : Int32} {a2 : Int32} {S : zT} {o : Int32 × zT} (h : fX7_areTold a0 a1 a2 S = some o) : zFr [] [] S o.2 := by
  unfold fX7_areTold at h
  obtain ⟨r_2, S_1, h9, h⟩ := zbi_inv h
  refine zFr_trans (zFr_mono (frX7_areTicks h9) (by simp) (by simp)) ?_
  rcases zif_or h with h | h
  · cases h
    exact zFr_rf _ _ _
  · obtain ⟨r_4, S_3, h9, h⟩ := zbi_inv h
    refine zFr_trans (zFr_mono (frX7_rowsOf h9) (by simp) (by simp)) ?_
    rcases zif_or h with h | h
    · cases h
      exact zFr_rf _ _ _
    · cases h
      exact zFr_rf _ _ _

set_option maxRecDepth 100000 in
set_option maxHeartbeats 4000000 in
theorem frX5_holdsAtPlaces {a1 : Int32} {S : zT} {o : Int32 × zT} (h : fX5_holdsAtPlaces a1 S = some o) : zFr [81, 83, 85, 87, 89, 90, 91] [] S o.2 := by
  unfold fX5_holdsAtPlaces at h
  have L19 : ∀ (n19 : Nat) (x1 : Int32) (x2 : Int32) (S : zT), (zfix (fun _ _ _ => none) fX5_holdsAtPlaces_19 n19) x1 x2 S = some o → zFr [81, 83, 85, 87, 89, 90, 91] [] S o.2 := by
    intro n19
    induction n19 with
    | zero => intro x1 x2 S h; exact zno (show (none : Option (Int32 × zT)) = some o from h)
    | succ n19 ih19 =>
      intro x1 x2 S h
      replace h : fX5_holdsAtPlaces_19 (zfix (fun _ _ _ => none) fX5_holdsAtPlaces_19 n19) x1 x2 S = some o := h
      unfold fX5_holdsAtPlaces_19 at h
      have L86 : ∀ (x1 : Int32) (x2 : Int32) (S : zT), (fX5_holdsAtPlaces_86 (zfix (fun _ _ _ => none) fX5_holdsAtPlaces_19 n19)) x1 x2 S = some o → zFr [81, 83, 85, 87, 89, 90, 91] [] S o.2 := by
        intro x1 x2 S h
        unfold fX5_holdsAtPlaces_86 at h
        exact ih19 _ _ _ h
      rcases zif_or h with h | h
      · obtain ⟨r_2, S_1, h9, h⟩ := zbi_inv h
        refine zFr_trans (zFr_mono (frX4_holdsMiddle h9) (by simp) (by simp)) ?_
        replace h := (zif_g h).2
        cases h
        exact zFr_rf _ _ _
      · rcases zif_or h with h | h
        · obtain ⟨r_4, S_3, h9, h⟩ := zbi_inv h
          refine zFr_trans (zFr_mono (frX2_at h9) (by simp) (by simp)) ?_
          obtain ⟨r_6, S_5, h9, h⟩ := zbi_inv h
          refine zFr_trans (zFr_mono (frX2_at h9) (by simp) (by simp)) ?_
          obtain ⟨S_7, h9, h⟩ := zbv_inv h
          refine zFr_trans (zFr_mono (frX4_add h9) (by simp) (by simp)) ?_
          exact L86 _ _ _ h
        · exact L86 _ _ _ h
  obtain ⟨r_9, S_8, h9, h⟩ := zbi_inv h
  refine zFr_trans (zFr_mono (frX5_fitsKind h9) (by simp) (by simp)) ?_
  rcases zif_or h with h | h
  · cases h
    exact zFr_rf _ _ _
  · obtain ⟨S_10, h9, h⟩ := zbv_inv h
    refine zFr_trans (zFr_mono (frX4_empty h9) (by simp) (by simp)) ?_
    exact L19 zF _ _ _ h

set_option maxRecDepth 100000 in
set_option maxHeartbeats 4000000 in
theorem frX5_readPlaces {S : zT} {o : zT} (h : fX5_readPlaces S = some o) : zFr [80, 81, 83, 85, 87, 89, 90, 91] [] S o := by
  unfold fX5_readPlaces at h
  have L10 : ∀ (n10 : Nat) (x1 : Int32) (x2 : Int32) (S : zT), (zfix (fun _ _ _ => none) fX5_readPlaces_10 n10) x1 x2 S = some o → zFr [80, 81, 83, 85, 87, 89, 90, 91] [] S o := by
    intro n10
    induction n10 with
    | zero => intro x1 x2 S h; exact zno (show (none : Option zT) = some o from h)
    | succ n10 ih10 =>
      intro x1 x2 S h
      replace h : fX5_readPlaces_10 (zfix (fun _ _ _ => none) fX5_readPlaces_10 n10) x1 x2 S = some o := h
      unfold fX5_readPlaces_10 at h
      have L33 : ∀ (x1 : Int32) (x2 : Int32) (t0 : Int32) (t1 : Int32) (S : zT), (fX5_readPlaces_33 (zfix (fun _ _ _ => none) fX5_readPlaces_10 n10)) x1 x2 t0 t1 S = some o → zFr [80, 81, 83, 85, 87, 89, 90, 91] [] S o := by
        intro x1 x2 t0 t1 S h
        unfold fX5_readPlaces_33 at h
        obtain ⟨S_1, h9, h⟩ := zbv_inv h
        refine zFr_trans (zFr_mono (frX2_put h9) (by simp) (by simp)) ?_
        exact ih10 _ _ _ h
      rcases zif_or h with h | h
      · cases h
        exact zFr_rf _ _ _
      · obtain ⟨r_3, S_2, h9, h⟩ := zbi_inv h
        refine zFr_trans (zFr_mono (frX5_holdsAtPlaces h9) (by simp) (by simp)) ?_
        rcases zif_or h with h | h
        · exact L33 _ _ _ _ _ h
        · exact L33 _ _ _ _ _ h
  obtain ⟨r_5, S_4, h9, h⟩ := zbi_inv h
  refine zFr_trans (zFr_mono (frX6_fullSet h9) (by simp) (by simp)) ?_
  exact L10 zF _ _ _ h

set_option maxRecDepth 100000 in
set_option maxHeartbeats 4000000 in
theorem frX3_start {a1 : Int32} {a2 : Int32} {S : zT} {o : Int32 × zT} (h : fX3_start a1 a2 S = some o) : zFr [66, 67, 68, 74, 76, 78, 80, 81, 83, 85, 87, 89, 90, 91, 95] [] S o.2 := by
  unfold fX3_start at h
  have L7 : ∀ (n7 : Nat) (x1 : Int32) (x2 : Int32) (x3 : Int32) (S : zT), (zfix (fun _ _ _ _ => none) fX3_start_7 n7) x1 x2 x3 S = some o → zFr [66, 67, 68, 74, 76, 78, 80, 81, 83, 85, 87, 89, 90, 91, 95] [] S o.2 := by
    intro n7
    induction n7 with
    | zero => intro x1 x2 x3 S h; exact zno (show (none : Option (Int32 × zT)) = some o from h)
    | succ n7 ih7 =>
      intro x1 x2 x3 S h
      replace h : fX3_start_7 (zfix (fun _ _ _ _ => none) fX3_start_7 n7) x1 x2 x3 S = some o := h
      unfold fX3_start_7 at h
      have L75 : ∀ (x1 : Int32) (S : zT), fX3_start_75 x1 S = some o → zFr [66, 67, 68, 74, 76, 78, 80, 81, 83, 85, 87, 89, 90, 91, 95] [] S o.2 := by
        intro x1 S h
        unfold fX3_start_75 at h
        obtain ⟨r_2, S_1, h9, h⟩ := zbi_inv h
        refine zFr_trans (zFr_mono (frX7_rowsOf h9) (by simp) (by simp)) ?_
        cases h
        exact zFr_rf _ _ _
      rcases zif_or h with h | h
      · obtain ⟨S_3, h9, h⟩ := zbv_inv h
        refine zFr_trans (zFr_mono (frX6_layRow h9) (by simp) (by simp)) ?_
        obtain ⟨S_4, h9, h⟩ := zbv_inv h
        refine zFr_trans (zFr_mono (frX5_readGait h9) (by simp) (by simp)) ?_
        rcases zif_or h with h | h
        · obtain ⟨S_5, h9, h⟩ := zbv_inv h
          refine zFr_trans (zFr_mono (frX5_readPlaces h9) (by simp) (by simp)) ?_
          refine zFr_wi h (by simp) (fun S_6 h => ?_)
          exact L75 _ _ h
        · exact L75 _ _ h
      · obtain ⟨S_7, h9, h⟩ := zbv_inv h
        refine zFr_trans (zFr_mono (frX2_put h9) (by simp) (by simp)) ?_
        exact ih7 _ _ _ _ h
  refine zFr_wi h (by simp) (fun S_8 h => ?_)
  exact L7 zF _ _ _ _ h

set_option maxRecDepth 100000 in
set_option maxHeartbeats 4000000 in
theorem frX3_goOn {S : zT} {o : zT} (h : fX3_goOn S = some o) : zFr [74, 76, 78, 95] [] S o := by
  unfold fX3_goOn at h
  have L12 : ∀ (n12 : Nat) (x1 : Int32) (x2 : Int32) (S : zT), (zfix (fun _ _ _ => none) fX3_goOn_12 n12) x1 x2 S = some o → zFr [74, 76, 78, 95] [] S o := by
    intro n12
    induction n12 with
    | zero => intro x1 x2 S h; exact zno (show (none : Option zT) = some o from h)
    | succ n12 ih12 =>
      intro x1 x2 S h
      replace h : fX3_goOn_12 (zfix (fun _ _ _ => none) fX3_goOn_12 n12) x1 x2 S = some o := h
      unfold fX3_goOn_12 at h
      have L47 : ∀ (x2 : Int32) (x3 : Int32) (t0 : Int32) (S : zT), (fX3_goOn_47 (zfix (fun _ _ _ => none) fX3_goOn_12 n12)) x2 x3 t0 S = some o → zFr [74, 76, 78, 95] [] S o := by
        intro x2 x3 t0 S h
        unfold fX3_goOn_47 at h
        have L62 : ∀ (x1 : Int32) (x2 : Int32) (t0 : Int32) (t1 : Int32) (S : zT), (fX3_goOn_62 (zfix (fun _ _ _ => none) fX3_goOn_12 n12)) x1 x2 t0 t1 S = some o → zFr [74, 76, 78, 95] [] S o := by
          intro x1 x2 t0 t1 S h
          unfold fX3_goOn_62 at h
          obtain ⟨S_1, h9, h⟩ := zbv_inv h
          refine zFr_trans (zFr_mono (frX2_put h9) (by simp) (by simp)) ?_
          obtain ⟨r_3, S_2, h9, h⟩ := zbi_inv h
          refine zFr_trans (zFr_mono (frX2_at h9) (by simp) (by simp)) ?_
          obtain ⟨S_4, h9, h⟩ := zbv_inv h
          refine zFr_trans (zFr_mono (frX6_layLeg h9) (by simp) (by simp)) ?_
          obtain ⟨S_5, h9, h⟩ := zbv_inv h
          refine zFr_trans (zFr_mono (frX5_readLeg h9) (by simp) (by simp)) ?_
          exact ih12 _ _ _ h
        rcases zif_or h with h | h
        · exact L62 _ _ _ _ _ h
        · exact L62 _ _ _ _ _ h
      rcases zif_or h with h | h
      · cases h
        exact zFr_rf _ _ _
      · rcases zif_or h with h | h
        · cases h
          exact zFr_rf _ _ _
        · obtain ⟨r_7, S_6, h9, h⟩ := zbi_inv h
          refine zFr_trans (zFr_mono (frX2_at h9) (by simp) (by simp)) ?_
          rcases zif_or h with h | h
          · exact L47 _ _ _ _ h
          · exact L47 _ _ _ _ h
  exact L12 zF _ _ _ h

set_option maxRecDepth 100000 in
set_option maxHeartbeats 4000000 in
theorem frX7_countRows {a1 : Int32} {a2 : Int32} {S : zT} {o : Int32 × zT} (h : fX7_countRows a1 a2 S = some o) : zFr [66, 67, 68, 74, 76, 78, 80, 81, 83, 85, 87, 89, 90, 91, 95] [] S o.2 := by
  unfold fX7_countRows at h
  have L33 : ∀ (n33 : Nat) (x3 : Int32) (x4 : Int32) (x5 : Int32) (S : zT), (zfix (fun _ _ _ _ => none) fX7_countRows_33 n33) x3 x4 x5 S = some o → zFr [66, 67, 68, 74, 76, 78, 80, 81, 83, 85, 87, 89, 90, 91, 95] [] S o.2 := by
    intro n33
    induction n33 with
    | zero => intro x3 x4 x5 S h; exact zno (show (none : Option (Int32 × zT)) = some o from h)
    | succ n33 ih33 =>
      intro x3 x4 x5 S h
      replace h : fX7_countRows_33 (zfix (fun _ _ _ _ => none) fX7_countRows_33 n33) x3 x4 x5 S = some o := h
      unfold fX7_countRows_33 at h
      have L52 : ∀ (x3 : Int32) (x4 : Int32) (x5 : Int32) (S : zT), (fX7_countRows_52 (zfix (fun _ _ _ _ => none) fX7_countRows_33 n33)) x3 x4 x5 S = some o → zFr [66, 67, 68, 74, 76, 78, 80, 81, 83, 85, 87, 89, 90, 91, 95] [] S o.2 := by
        intro x3 x4 x5 S h
        unfold fX7_countRows_52 at h
        obtain ⟨S_1, h9, h⟩ := zbv_inv h
        refine zFr_trans (zFr_mono (frX3_goOn h9) (by simp) (by simp)) ?_
        exact ih33 _ _ _ _ h
      rcases zif_or h with h | h
      · cases h
        exact zFr_rf _ _ _
      · obtain ⟨r_3, S_2, h9, h⟩ := zbi_inv h
        refine zFr_trans (zFr_mono (frX5_isSteady h9) (by simp) (by simp)) ?_
        rcases zif_or h with h | h
        · exact L52 _ _ _ _ h
        · exact L52 _ _ _ _ h
  obtain ⟨r_5, S_4, h9, h⟩ := zbi_inv h
  refine zFr_trans (zFr_mono (frX7_areTold h9) (by simp) (by simp)) ?_
  rcases zif_or h with h | h
  · cases h
    exact zFr_rf _ _ _
  · obtain ⟨r_7, S_6, h9, h⟩ := zbi_inv h
    refine zFr_trans (zFr_mono (frX3_start h9) (by simp) (by simp)) ?_
    exact L33 zF _ _ _ _ h

set_option maxRecDepth 100000 in
set_option maxHeartbeats 4000000 in
theorem frX7_many {a1 : Int32} {a2 : Int32} {S : zT} {o : Int32 × zT} (h : fX7_many a1 a2 S = some o) : zFr [66, 67, 68, 70, 72, 74, 76, 78, 80, 81, 83, 85, 87, 89, 90, 91, 95] [] S o.2 := by
  unfold fX7_many at h
  obtain ⟨S_1, h9, h⟩ := zbv_inv h
  refine zFr_trans (zFr_mono (frX6_copyFrom h9) (by simp) (by simp)) ?_
  obtain ⟨r_3, S_2, h9, h⟩ := zbi_inv h
  refine zFr_trans (zFr_mono (frX7_countRows h9) (by simp) (by simp)) ?_
  cases h
  exact zFr_rf _ _ _

set_option maxRecDepth 100000 in
set_option maxHeartbeats 4000000 in
theorem frX3_packedOffsets {S : zT} {o : Int32 × zT} (h : fX3_packedOffsets S = some o) : zFr [] [] S o.2 := by
  unfold fX3_packedOffsets at h
  have L4 : ∀ (n4 : Nat) (x1 : Int32) (x2 : Int32) (S : zT), (zfix (fun _ _ _ => none) fX3_packedOffsets_4 n4) x1 x2 S = some o → zFr [] [] S o.2 := by
    intro n4
    induction n4 with
    | zero => intro x1 x2 S h; exact zno (show (none : Option (Int32 × zT)) = some o from h)
    | succ n4 ih4 =>
      intro x1 x2 S h
      replace h : fX3_packedOffsets_4 (zfix (fun _ _ _ => none) fX3_packedOffsets_4 n4) x1 x2 S = some o := h
      unfold fX3_packedOffsets_4 at h
      rcases zif_or h with h | h
      · cases h
        exact zFr_rf _ _ _
      · obtain ⟨r_2, S_1, h9, h⟩ := zbi_inv h
        refine zFr_trans (zFr_mono (frX2_at h9) (by simp) (by simp)) ?_
        exact ih4 _ _ _ h
  exact L4 zF _ _ _ h

set_option maxRecDepth 100000 in
set_option maxHeartbeats 4000000 in
theorem frX7_pick {a1 : Int32} {a2 : Int32} {a3 : Int32} {S : zT} {o : Int32 × zT} (h : fX7_pick a1 a2 a3 S = some o) : zFr [1, 7, 8, 10, 12, 14, 16, 17, 19, 21, 23, 24, 26, 28, 30, 31, 33, 35, 37, 38, 40, 42, 44, 45, 47, 49, 51, 52, 54, 56, 58, 59, 61, 63, 65, 66, 67, 68, 70, 72, 74, 76, 78, 80, 81, 83, 85, 87, 89, 90, 91, 95] [] S o.2 := by
  unfold fX7_pick at h
  have L49 : ∀ (n49 : Nat) (x1 : Int32) (x2 : Int32) (x3 : Int32) (x4 : Int32) (x5 : Int32) (x6 : Int32) (S : zT), (zfix (fun _ _ _ _ _ _ _ => none) fX7_pick_49 n49) x1 x2 x3 x4 x5 x6 S = some o → zFr [1, 7, 8, 10, 12, 14, 16, 17, 19, 21, 23, 24, 26, 28, 30, 31, 33, 35, 37, 38, 40, 42, 44, 45, 47, 49, 51, 52, 54, 56, 58, 59, 61, 63, 65, 66, 67, 68, 70, 72, 74, 76, 78, 80, 81, 83, 85, 87, 89, 90, 91, 95] [] S o.2 := by
    intro n49
    induction n49 with
    | zero => intro x1 x2 x3 x4 x5 x6 S h; exact zno (show (none : Option (Int32 × zT)) = some o from h)
    | succ n49 ih49 =>
      intro x1 x2 x3 x4 x5 x6 S h
      replace h : fX7_pick_49 (zfix (fun _ _ _ _ _ _ _ => none) fX7_pick_49 n49) x1 x2 x3 x4 x5 x6 S = some o := h
      unfold fX7_pick_49 at h
      have L104 : ∀ (x1 : Int32) (x2 : Int32) (x3 : Int32) (x4 : Int32) (x5 : Int32) (x6 : Int32) (S : zT), (fX7_pick_104 (zfix (fun _ _ _ _ _ _ _ => none) fX7_pick_49 n49)) x1 x2 x3 x4 x5 x6 S = some o → zFr [1, 7, 8, 10, 12, 14, 16, 17, 19, 21, 23, 24, 26, 28, 30, 31, 33, 35, 37, 38, 40, 42, 44, 45, 47, 49, 51, 52, 54, 56, 58, 59, 61, 63, 65, 66, 67, 68, 70, 72, 74, 76, 78, 80, 81, 83, 85, 87, 89, 90, 91, 95] [] S o.2 := by
        intro x1 x2 x3 x4 x5 x6 S h
        unfold fX7_pick_104 at h
        obtain ⟨S_1, h9, h⟩ := zbv_inv h
        refine zFr_trans (zFr_mono (frX3_goOn h9) (by simp) (by simp)) ?_
        exact ih49 _ _ _ _ _ _ _ h
      rcases zif_or h with h | h
      · cases h
        exact zFr_rf _ _ _
      · obtain ⟨r_3, S_2, h9, h⟩ := zbi_inv h
        refine zFr_trans (zFr_mono (frX5_isSteady h9) (by simp) (by simp)) ?_
        rcases zif_or h with h | h
        · exact L104 _ _ _ _ _ _ _ h
        · rcases zif_or h with h | h
          · obtain ⟨S_4, h9, h⟩ := zbv_inv h
            refine zFr_trans (zFr_mono (frX0_keep h9) (by simp) (by simp)) ?_
            obtain ⟨r_6, S_5, h9, h⟩ := zbi_inv h
            refine zFr_trans (zFr_mono (frX3_packedOffsets h9) (by simp) (by simp)) ?_
            obtain ⟨S_7, h9, h⟩ := zbv_inv h
            refine zFr_trans (zFr_mono (frX6_layRow h9) (by simp) (by simp)) ?_
            cases h
            exact zFr_rf _ _ _
          · exact L104 _ _ _ _ _ _ _ h
  rcases zif_or h with h | h
  · cases h
    exact zFr_rf _ _ _
  · obtain ⟨r_9, S_8, h9, h⟩ := zbi_inv h
    refine zFr_trans (zFr_mono (frX7_areTold h9) (by simp) (by simp)) ?_
    rcases zif_or h with h | h
    · cases h
      exact zFr_rf _ _ _
    · obtain ⟨S_10, h9, h⟩ := zbv_inv h
      refine zFr_trans (zFr_mono (frX6_copyFrom h9) (by simp) (by simp)) ?_
      obtain ⟨r_12, S_11, h9, h⟩ := zbi_inv h
      refine zFr_trans (zFr_mono (frX3_start h9) (by simp) (by simp)) ?_
      exact L49 zF _ _ _ _ _ _ _ h

set_option maxRecDepth 100000 in
set_option maxHeartbeats 4000000 in
theorem frX6_hasGaitOf {b : Nat} {b1 : Nat} {S : zT} {o : Int32 × zT} (h : fX6_hasGaitOf b b1 S = some o) : zFr [] [] S o.2 := by
  unfold fX6_hasGaitOf at h
  have L2 : ∀ (n2 : Nat) (x2 : Int32) (S : zT), (zfix (fun _ _ => none) (fX6_hasGaitOf_2 b b1) n2) x2 S = some o → zFr [] [] S o.2 := by
    intro n2
    induction n2 with
    | zero => intro x2 S h; exact zno (show (none : Option (Int32 × zT)) = some o from h)
    | succ n2 ih2 =>
      intro x2 S h
      replace h : fX6_hasGaitOf_2 b b1 (zfix (fun _ _ => none) (fX6_hasGaitOf_2 b b1) n2) x2 S = some o := h
      unfold fX6_hasGaitOf_2 at h
      rcases zif_or h with h | h
      · rcases zif_or h with h | h
        · cases h
          exact zFr_rf _ _ _
        · cases h
          exact zFr_rf _ _ _
      · obtain ⟨r_2, S_1, h9, h⟩ := zbi_inv h
        refine zFr_trans (zFr_mono (frX2_at h9) (by simp) (by simp)) ?_
        obtain ⟨r_4, S_3, h9, h⟩ := zbi_inv h
        refine zFr_trans (zFr_mono (frX2_at h9) (by simp) (by simp)) ?_
        rcases zif_or h with h | h
        · exact ih2 _ _ h
        · cases h
          exact zFr_rf _ _ _
  exact L2 zF _ _ h

set_option maxRecDepth 100000 in
set_option maxHeartbeats 4000000 in
theorem frX7_rank {a1 : Int32} {a2 : Int32} {S : zT} {o : Int32 × zT} (h : fX7_rank a1 a2 S = some o) : zFr [66, 67, 68, 70, 72, 74, 76, 78, 80, 81, 83, 85, 87, 89, 90, 91, 95] [] S o.2 := by
  unfold fX7_rank at h
  have L55 : ∀ (n55 : Nat) (x3 : Int32) (x4 : Int32) (x5 : Int32) (S : zT), (zfix (fun _ _ _ _ => none) fX7_rank_55 n55) x3 x4 x5 S = some o → zFr [66, 67, 68, 70, 72, 74, 76, 78, 80, 81, 83, 85, 87, 89, 90, 91, 95] [] S o.2 := by
    intro n55
    induction n55 with
    | zero => intro x3 x4 x5 S h; exact zno (show (none : Option (Int32 × zT)) = some o from h)
    | succ n55 ih55 =>
      intro x3 x4 x5 S h
      replace h : fX7_rank_55 (zfix (fun _ _ _ _ => none) fX7_rank_55 n55) x3 x4 x5 S = some o := h
      unfold fX7_rank_55 at h
      have L104 : ∀ (x3 : Int32) (x4 : Int32) (x5 : Int32) (S : zT), (fX7_rank_104 (zfix (fun _ _ _ _ => none) fX7_rank_55 n55)) x3 x4 x5 S = some o → zFr [66, 67, 68, 70, 72, 74, 76, 78, 80, 81, 83, 85, 87, 89, 90, 91, 95] [] S o.2 := by
        intro x3 x4 x5 S h
        unfold fX7_rank_104 at h
        obtain ⟨S_1, h9, h⟩ := zbv_inv h
        refine zFr_trans (zFr_mono (frX3_goOn h9) (by simp) (by simp)) ?_
        exact ih55 _ _ _ _ h
      rcases zif_or h with h | h
      · cases h
        exact zFr_rf _ _ _
      · obtain ⟨r_3, S_2, h9, h⟩ := zbi_inv h
        refine zFr_trans (zFr_mono (frX5_isSteady h9) (by simp) (by simp)) ?_
        obtain ⟨r_5, S_4, h9, h⟩ := zbi_inv h
        refine zFr_trans (zFr_mono (frX6_hasGaitOf h9) (by simp) (by simp)) ?_
        rcases zif_or h with h | h
        · rcases zif_or h with h | h
          · exact L104 _ _ _ _ h
          · exact L104 _ _ _ _ h
        · rcases zif_or h with h | h
          · cases h
            exact zFr_rf _ _ _
          · cases h
            exact zFr_rf _ _ _
  obtain ⟨r_7, S_6, h9, h⟩ := zbi_inv h
  refine zFr_trans (zFr_mono (frX7_areTold h9) (by simp) (by simp)) ?_
  rcases zif_or h with h | h
  · cases h
    exact zFr_rf _ _ _
  · rcases zif_or h with h | h
    · obtain ⟨S_8, h9, h⟩ := zbv_inv h
      refine zFr_trans (zFr_mono (frX6_copyFrom h9) (by simp) (by simp)) ?_
      obtain ⟨r_10, S_9, h9, h⟩ := zbi_inv h
      refine zFr_trans (zFr_mono (frX3_start h9) (by simp) (by simp)) ?_
      exact L55 zF _ _ _ _ h
    · cases h
      exact zFr_rf _ _ _

set_option maxRecDepth 100000 in
set_option maxHeartbeats 4000000 in
theorem frX3_mark {a1 : Int32} {a2 : Int32} {S : zT} {o : zT} (h : fX3_mark a1 a2 S = some o) : zFr [97] [] S o := by
  unfold fX3_mark at h
  have L43 : ∀ (t0 : Int32) (t1 : Int32) (S : zT), fX3_mark_43 t0 t1 S = some o → zFr [97] [] S o := by
    intro t0 t1 S h
    unfold fX3_mark_43 at h
    obtain ⟨S_1, h9, h⟩ := zbv_inv h
    refine zFr_trans (zFr_mono (frX2_put h9) (by simp) (by simp)) ?_
    cases h
    exact zFr_rf _ _ _
  obtain ⟨r_3, S_2, h9, h⟩ := zbi_inv h
  refine zFr_trans (zFr_mono (frX2_at h9) (by simp) (by simp)) ?_
  rcases zif_or h with h | h
  · exact L43 _ _ _ h
  · exact L43 _ _ _ h

set_option maxRecDepth 100000 in
set_option maxHeartbeats 4000000 in
theorem frX3_mirrorIndex {S : zT} {o : Int32 × zT} (h : fX3_mirrorIndex S = some o) : zFr [] [] S o.2 := by
  unfold fX3_mirrorIndex at h
  have L20 : ∀ (n20 : Nat) (x1 : Int32) (x2 : Int32) (x3 : Int32) (S : zT), (zfix (fun _ _ _ _ => none) fX3_mirrorIndex_20 n20) x1 x2 x3 S = some o → zFr [] [] S o.2 := by
    intro n20
    induction n20 with
    | zero => intro x1 x2 x3 S h; exact zno (show (none : Option (Int32 × zT)) = some o from h)
    | succ n20 ih20 =>
      intro x1 x2 x3 S h
      replace h : fX3_mirrorIndex_20 (zfix (fun _ _ _ _ => none) fX3_mirrorIndex_20 n20) x1 x2 x3 S = some o := h
      unfold fX3_mirrorIndex_20 at h
      have L79 : ∀ (x1 : Int32) (x3 : Int32) (t0 : Int32) (t1 : Int32) (S : zT), (fX3_mirrorIndex_79 (zfix (fun _ _ _ _ => none) fX3_mirrorIndex_20 n20)) x1 x3 t0 t1 S = some o → zFr [] [] S o.2 := by
        intro x1 x3 t0 t1 S h
        unfold fX3_mirrorIndex_79 at h
        exact ih20 _ _ _ _ h
      rcases zif_or h with h | h
      · cases h
        exact zFr_rf _ _ _
      · obtain ⟨r_2, S_1, h9, h⟩ := zbi_inv h
        refine zFr_trans (zFr_mono (frX6_twinOf h9) (by simp) (by simp)) ?_
        obtain ⟨r_4, S_3, h9, h⟩ := zbi_inv h
        refine zFr_trans (zFr_mono (frX2_at h9) (by simp) (by simp)) ?_
        rcases zif_or h with h | h
        · exact L79 _ _ _ _ _ h
        · exact L79 _ _ _ _ _ h
  obtain ⟨r_6, S_5, h9, h⟩ := zbi_inv h
  refine zFr_trans (zFr_mono (frX6_twinOf h9) (by simp) (by simp)) ?_
  obtain ⟨r_8, S_7, h9, h⟩ := zbi_inv h
  refine zFr_trans (zFr_mono (frX2_at h9) (by simp) (by simp)) ?_
  exact L20 zF _ _ _ _ h

set_option maxRecDepth 100000 in
set_option maxHeartbeats 4000000 in
theorem frX3_hasEarlierMirror {a1 : Int32} {S : zT} {o : Int32 × zT} (h : fX3_hasEarlierMirror a1 S = some o) : zFr [] [] S o.2 := by
  unfold fX3_hasEarlierMirror at h
  obtain ⟨r_2, S_1, h9, h⟩ := zbi_inv h
  refine zFr_trans (zFr_mono (frX3_mirrorIndex h9) (by simp) (by simp)) ?_
  rcases zif_or h with h | h
  · cases h
    exact zFr_rf _ _ _
  · obtain ⟨r_4, S_3, h9, h⟩ := zbi_inv h
    refine zFr_trans (zFr_mono (frX2_at h9) (by simp) (by simp)) ?_
    rcases zif_or h with h | h
    · cases h
      exact zFr_rf _ _ _
    · cases h
      exact zFr_rf _ _ _

set_option maxRecDepth 100000 in
set_option maxHeartbeats 4000000 in
theorem frX3_countUnlike {a1 : Int32} {a2 : Int32} {S : zT} {o : Int32 × zT} (h : fX3_countUnlike a1 a2 S = some o) : zFr [66, 67, 68, 74, 76, 78, 80, 81, 83, 85, 87, 89, 90, 91, 95, 97] [] S o.2 := by
  unfold fX3_countUnlike at h
  have L13 : ∀ (n13 : Nat) (x3 : Int32) (x4 : Int32) (x5 : Int32) (S : zT), (zfix (fun _ _ _ _ => none) fX3_countUnlike_13 n13) x3 x4 x5 S = some o → zFr [66, 67, 68, 74, 76, 78, 80, 81, 83, 85, 87, 89, 90, 91, 95, 97] [] S o.2 := by
    intro n13
    induction n13 with
    | zero => intro x3 x4 x5 S h; exact zno (show (none : Option (Int32 × zT)) = some o from h)
    | succ n13 ih13 =>
      intro x3 x4 x5 S h
      replace h : fX3_countUnlike_13 (zfix (fun _ _ _ _ => none) fX3_countUnlike_13 n13) x3 x4 x5 S = some o := h
      unfold fX3_countUnlike_13 at h
      have L53 : ∀ (x3 : Int32) (x4 : Int32) (x5 : Int32) (S : zT), (fX3_countUnlike_53 (zfix (fun _ _ _ _ => none) fX3_countUnlike_13 n13)) x3 x4 x5 S = some o → zFr [66, 67, 68, 74, 76, 78, 80, 81, 83, 85, 87, 89, 90, 91, 95, 97] [] S o.2 := by
        intro x3 x4 x5 S h
        unfold fX3_countUnlike_53 at h
        obtain ⟨S_1, h9, h⟩ := zbv_inv h
        refine zFr_trans (zFr_mono (frX3_goOn h9) (by simp) (by simp)) ?_
        exact ih13 _ _ _ _ h
      rcases zif_or h with h | h
      · cases h
        exact zFr_rf _ _ _
      · obtain ⟨r_3, S_2, h9, h⟩ := zbi_inv h
        refine zFr_trans (zFr_mono (frX5_isSteady h9) (by simp) (by simp)) ?_
        obtain ⟨S_4, h9, h⟩ := zbv_inv h
        refine zFr_trans (zFr_mono (frX3_mark h9) (by simp) (by simp)) ?_
        rcases zif_or h with h | h
        · exact L53 _ _ _ _ h
        · obtain ⟨r_6, S_5, h9, h⟩ := zbi_inv h
          refine zFr_trans (zFr_mono (frX3_hasEarlierMirror h9) (by simp) (by simp)) ?_
          rcases zif_or h with h | h
          · exact L53 _ _ _ _ h
          · exact L53 _ _ _ _ h
  obtain ⟨r_8, S_7, h9, h⟩ := zbi_inv h
  refine zFr_trans (zFr_mono (frX3_start h9) (by simp) (by simp)) ?_
  exact L13 zF _ _ _ _ h

set_option maxRecDepth 100000 in
set_option maxHeartbeats 4000000 in
theorem frX7_unlike {a1 : Int32} {a2 : Int32} {S : zT} {o : Int32 × zT} (h : fX7_unlike a1 a2 S = some o) : zFr [66, 67, 68, 70, 72, 74, 76, 78, 80, 81, 83, 85, 87, 89, 90, 91, 95, 97] [] S o.2 := by
  unfold fX7_unlike at h
  obtain ⟨r_2, S_1, h9, h⟩ := zbi_inv h
  refine zFr_trans (zFr_mono (frX7_areTold h9) (by simp) (by simp)) ?_
  rcases zif_or h with h | h
  · cases h
    exact zFr_rf _ _ _
  · obtain ⟨S_3, h9, h⟩ := zbv_inv h
    refine zFr_trans (zFr_mono (frX6_copyFrom h9) (by simp) (by simp)) ?_
    obtain ⟨r_5, S_4, h9, h⟩ := zbi_inv h
    refine zFr_trans (zFr_mono (frX6_isMirrored h9) (by simp) (by simp)) ?_
    rcases zif_or h with h | h
    · obtain ⟨r_7, S_6, h9, h⟩ := zbi_inv h
      refine zFr_trans (zFr_mono (frX7_countRows h9) (by simp) (by simp)) ?_
      cases h
      exact zFr_rf _ _ _
    · obtain ⟨r_9, S_8, h9, h⟩ := zbi_inv h
      refine zFr_trans (zFr_mono (frX3_countUnlike h9) (by simp) (by simp)) ?_
      cases h
      exact zFr_rf _ _ _

set_option maxRecDepth 100000 in
set_option maxHeartbeats 4000000 in
theorem frX7_best {a1 : Int32} {a2 : Int32} {S : zT} {o : Int32 × zT} (h : fX7_best a1 a2 S = some o) : zFr [1, 7, 8, 10, 12, 14, 16, 17, 19, 21, 23, 24, 26, 28, 30, 31, 33, 35, 37, 38, 40, 42, 44, 45, 47, 49, 51, 52, 54, 56, 58, 59, 61, 63, 65, 66, 67, 68, 70, 72, 74, 76, 78, 80, 81, 83, 85, 87, 89, 90, 91, 92, 93, 95, 98] [] S o.2 := by
  unfold fX7_best at h
  have L50 : ∀ (n50 : Nat) (x1 : Int32) (x2 : Int32) (x3 : Int32) (x4 : Int32) (x5 : Int32) (x6 : Int32) (x7 : Int32) (S : zT), (zfix (fun _ _ _ _ _ _ _ _ => none) fX7_best_50 n50) x1 x2 x3 x4 x5 x6 x7 S = some o → zFr [1, 7, 8, 10, 12, 14, 16, 17, 19, 21, 23, 24, 26, 28, 30, 31, 33, 35, 37, 38, 40, 42, 44, 45, 47, 49, 51, 52, 54, 56, 58, 59, 61, 63, 65, 66, 67, 68, 70, 72, 74, 76, 78, 80, 81, 83, 85, 87, 89, 90, 91, 92, 93, 95, 98] [] S o.2 := by
    intro n50
    induction n50 with
    | zero => intro x1 x2 x3 x4 x5 x6 x7 S h; exact zno (show (none : Option (Int32 × zT)) = some o from h)
    | succ n50 ih50 =>
      intro x1 x2 x3 x4 x5 x6 x7 S h
      replace h : fX7_best_50 (zfix (fun _ _ _ _ _ _ _ _ => none) fX7_best_50 n50) x1 x2 x3 x4 x5 x6 x7 S = some o := h
      unfold fX7_best_50 at h
      have L130 : ∀ (x1 : Int32) (x2 : Int32) (x3 : Int32) (x4 : Int32) (x5 : Int32) (x6 : Int32) (x7 : Int32) (S : zT), (fX7_best_130 (zfix (fun _ _ _ _ _ _ _ _ => none) fX7_best_50 n50)) x1 x2 x3 x4 x5 x6 x7 S = some o → zFr [1, 7, 8, 10, 12, 14, 16, 17, 19, 21, 23, 24, 26, 28, 30, 31, 33, 35, 37, 38, 40, 42, 44, 45, 47, 49, 51, 52, 54, 56, 58, 59, 61, 63, 65, 66, 67, 68, 70, 72, 74, 76, 78, 80, 81, 83, 85, 87, 89, 90, 91, 92, 93, 95, 98] [] S o.2 := by
        intro x1 x2 x3 x4 x5 x6 x7 S h
        unfold fX7_best_130 at h
        obtain ⟨S_1, h9, h⟩ := zbv_inv h
        refine zFr_trans (zFr_mono (frX3_goOn h9) (by simp) (by simp)) ?_
        exact ih50 _ _ _ _ _ _ _ _ h
      have L127 : ∀ (x1 : Int32) (x2 : Int32) (x3 : Int32) (x4 : Int32) (x5 : Int32) (x6 : Int32) (x7 : Int32) (S : zT), (fX7_best_127 (fX7_best_130 (zfix (fun _ _ _ _ _ _ _ _ => none) fX7_best_50 n50))) x1 x2 x3 x4 x5 x6 x7 S = some o → zFr [1, 7, 8, 10, 12, 14, 16, 17, 19, 21, 23, 24, 26, 28, 30, 31, 33, 35, 37, 38, 40, 42, 44, 45, 47, 49, 51, 52, 54, 56, 58, 59, 61, 63, 65, 66, 67, 68, 70, 72, 74, 76, 78, 80, 81, 83, 85, 87, 89, 90, 91, 92, 93, 95, 98] [] S o.2 := by
        intro x1 x2 x3 x4 x5 x6 x7 S h
        unfold fX7_best_127 at h
        exact L130 _ _ _ _ _ _ _ _ h
      have L100 : ∀ (x1 : Int32) (x2 : Int32) (x3 : Int32) (x4 : Int32) (x7 : Int32) (S : zT), (fX7_best_100 (fX7_best_127 (fX7_best_130 (zfix (fun _ _ _ _ _ _ _ _ => none) fX7_best_50 n50)))) x1 x2 x3 x4 x7 S = some o → zFr [1, 7, 8, 10, 12, 14, 16, 17, 19, 21, 23, 24, 26, 28, 30, 31, 33, 35, 37, 38, 40, 42, 44, 45, 47, 49, 51, 52, 54, 56, 58, 59, 61, 63, 65, 66, 67, 68, 70, 72, 74, 76, 78, 80, 81, 83, 85, 87, 89, 90, 91, 92, 93, 95, 98] [] S o.2 := by
        intro x1 x2 x3 x4 x7 S h
        unfold fX7_best_100 at h
        obtain ⟨S_2, h9, h⟩ := zbv_inv h
        refine zFr_trans (zFr_mono (frX1_copyFrom h9) (by simp) (by simp)) ?_
        obtain ⟨r_4, S_3, h9, h⟩ := zbi_inv h
        refine zFr_trans (zFr_mono (frX3_packedOffsets h9) (by simp) (by simp)) ?_
        exact L127 _ _ _ _ _ _ _ _ h
      rcases zif_or h with h | h
      · rcases zif_or h with h | h
        · cases h
          exact zFr_rf _ _ _
        · obtain ⟨S_5, h9, h⟩ := zbv_inv h
          refine zFr_trans (zFr_mono (frX0_keep h9) (by simp) (by simp)) ?_
          obtain ⟨S_6, h9, h⟩ := zbv_inv h
          refine zFr_trans (zFr_mono (frX6_layRow h9) (by simp) (by simp)) ?_
          cases h
          exact zFr_rf _ _ _
      · obtain ⟨r_8, S_7, h9, h⟩ := zbi_inv h
        refine zFr_trans (zFr_mono (frX5_isSteady h9) (by simp) (by simp)) ?_
        rcases zif_or h with h | h
        · exact L130 _ _ _ _ _ _ _ _ h
        · obtain ⟨r_10, S_9, h9, h⟩ := zbi_inv h
          refine zFr_trans (zFr_mono (frX5_findLeast h9) (by simp) (by simp)) ?_
          rcases zif_or h with h | h
          · exact L127 _ _ _ _ _ _ _ _ h
          · rcases zif_or h with h | h
            · exact L100 _ _ _ _ _ _ h
            · obtain ⟨r_12, S_11, h9, h⟩ := zbi_inv h
              refine zFr_trans (zFr_mono (frX1_isLessThan h9) (by simp) (by simp)) ?_
              rcases zif_or h with h | h
              · exact L127 _ _ _ _ _ _ _ _ h
              · exact L100 _ _ _ _ _ _ h
  obtain ⟨r_14, S_13, h9, h⟩ := zbi_inv h
  refine zFr_trans (zFr_mono (frX7_areTold h9) (by simp) (by simp)) ?_
  rcases zif_or h with h | h
  · cases h
    exact zFr_rf _ _ _
  · obtain ⟨S_15, h9, h⟩ := zbv_inv h
    refine zFr_trans (zFr_mono (frX6_copyFrom h9) (by simp) (by simp)) ?_
    obtain ⟨r_17, S_16, h9, h⟩ := zbi_inv h
    refine zFr_trans (zFr_mono (frX3_start h9) (by simp) (by simp)) ?_
    exact L50 zF _ _ _ _ _ _ _ _ h

set_option maxRecDepth 100000 in
set_option maxHeartbeats 4000000 in
theorem frX6_dropLeg {b : Nat} {a1 : Int32} {S : zT} {o : zT} (h : fX6_dropLeg b a1 S = some o) : zFr [b, b + 2, b + 4] [] S o := by
  unfold fX6_dropLeg at h
  have L12 : ∀ (n12 : Nat) (x2 : Int32) (S : zT), (zfix (fun _ _ => none) (fX6_dropLeg_12 b) n12) x2 S = some o → zFr [b, b + 2, b + 4] [] S o := by
    intro n12
    induction n12 with
    | zero => intro x2 S h; exact zno (show (none : Option zT) = some o from h)
    | succ n12 ih12 =>
      intro x2 S h
      replace h : fX6_dropLeg_12 b (zfix (fun _ _ => none) (fX6_dropLeg_12 b) n12) x2 S = some o := h
      unfold fX6_dropLeg_12 at h
      rcases zif_or h with h | h
      · cases h
        exact zFr_rf _ _ _
      · obtain ⟨r_2, S_1, h9, h⟩ := zbi_inv h
        refine zFr_trans (zFr_mono (frX2_at h9) (by simp) (by simp)) ?_
        obtain ⟨S_3, h9, h⟩ := zbv_inv h
        refine zFr_trans (zFr_mono (frX2_put h9) (by simp) (by simp)) ?_
        obtain ⟨r_5, S_4, h9, h⟩ := zbi_inv h
        refine zFr_trans (zFr_mono (frX2_at h9) (by simp) (by simp)) ?_
        obtain ⟨S_6, h9, h⟩ := zbv_inv h
        refine zFr_trans (zFr_mono (frX2_put h9) (by simp) (by simp)) ?_
        exact ih12 _ _ h
  refine zFr_wi h (by simp) (fun S_7 h => ?_)
  exact L12 zF _ _ h

set_option maxRecDepth 100000 in
set_option maxHeartbeats 4000000 in
theorem frX7_without {a1 : Int32} {a2 : Int32} {a3 : Int32} {S : zT} {o : Int32 × zT} (h : fX7_without a1 a2 a3 S = some o) : zFr [66, 67, 68, 70, 72, 74, 76, 78, 80, 81, 83, 85, 87, 89, 90, 91, 95] [] S o.2 := by
  unfold fX7_without at h
  obtain ⟨r_2, S_1, h9, h⟩ := zbi_inv h
  refine zFr_trans (zFr_mono (frX6_hasLeg h9) (by simp) (by simp)) ?_
  rcases zif_or h with h | h
  · cases h
    exact zFr_rf _ _ _
  · rcases zif_or h with h | h
    · cases h
      exact zFr_rf _ _ _
    · rcases zif_or h with h | h
      · cases h
        exact zFr_rf _ _ _
      · obtain ⟨S_3, h9, h⟩ := zbv_inv h
        refine zFr_trans (zFr_mono (frX6_copyFrom h9) (by simp) (by simp)) ?_
        obtain ⟨S_4, h9, h⟩ := zbv_inv h
        refine zFr_trans (zFr_mono (frX6_dropLeg h9) (by simp) (by simp)) ?_
        obtain ⟨r_6, S_5, h9, h⟩ := zbi_inv h
        refine zFr_trans (zFr_mono (frX7_countRows h9) (by simp) (by simp)) ?_
        cases h
        exact zFr_rf _ _ _

set_option maxRecDepth 100000 in
set_option maxHeartbeats 4000000 in
theorem frX7_loads {a1 : Int32} {S : zT} {o : Int32 × zT} (h : fX7_loads a1 S = some o) : zFr [67, 68, 70, 72, 74, 76, 78, 81, 83, 85, 87, 89, 90, 91] [] S o.2 := by
  unfold fX7_loads at h
  have L30 : ∀ (n30 : Nat) (x2 : Int32) (x3 : Int32) (S : zT), (zfix (fun _ _ _ => none) fX7_loads_30 n30) x2 x3 S = some o → zFr [67, 68, 70, 72, 74, 76, 78, 81, 83, 85, 87, 89, 90, 91] [] S o.2 := by
    intro n30
    induction n30 with
    | zero => intro x2 x3 S h; exact zno (show (none : Option (Int32 × zT)) = some o from h)
    | succ n30 ih30 =>
      intro x2 x3 S h
      replace h : fX7_loads_30 (zfix (fun _ _ _ => none) fX7_loads_30 n30) x2 x3 S = some o := h
      unfold fX7_loads_30 at h
      have L57 : ∀ (x2 : Int32) (x3 : Int32) (S : zT), (fX7_loads_57 (zfix (fun _ _ _ => none) fX7_loads_30 n30)) x2 x3 S = some o → zFr [67, 68, 70, 72, 74, 76, 78, 81, 83, 85, 87, 89, 90, 91] [] S o.2 := by
        intro x2 x3 S h
        unfold fX7_loads_57 at h
        exact ih30 _ _ _ h
      rcases zif_or h with h | h
      · cases h
        exact zFr_rf _ _ _
      · refine zFr_wi h (by simp) (fun S_1 h => ?_)
        obtain ⟨r_3, S_2, h9, h⟩ := zbi_inv h
        refine zFr_trans (zFr_mono (frX5_isSteady h9) (by simp) (by simp)) ?_
        rcases zif_or h with h | h
        · exact L57 _ _ _ h
        · exact L57 _ _ _ h
  obtain ⟨r_5, S_4, h9, h⟩ := zbi_inv h
  refine zFr_trans (zFr_mono (frX7_isWithin h9) (by simp) (by simp)) ?_
  rcases zif_or h with h | h
  · cases h
    exact zFr_rf _ _ _
  · obtain ⟨S_6, h9, h⟩ := zbv_inv h
    refine zFr_trans (zFr_mono (frX7_tryOut h9) (by simp) (by simp)) ?_
    refine zFr_wi h (by simp) (fun S_7 h => ?_)
    exact L30 zF _ _ _ h

set_option maxRecDepth 100000 in
set_option maxHeartbeats 4000000 in
theorem frJ6_bitCount_0f7a4 {a0 : Int32} {S : zT} {o : Int32 × zT} (h : fJ6_bitCount_0f7a4 a0 S = some o) : zFr [] [] S o.2 := by
  unfold fJ6_bitCount_0f7a4 at h
  cases h
  exact zFr_rf _ _ _

set_option maxRecDepth 100000 in
set_option maxHeartbeats 4000000 in
theorem frX7_reachFrom {a1 : Int32} {a2 : Int32} {a3 : Int32} {S : zT} {o : Int32 × zT} (h : fX7_reachFrom a1 a2 a3 S = some o) : zFr [100] [] S o.2 := by
  unfold fX7_reachFrom at h
  have L15 : ∀ (n15 : Nat) (x1 : Int32) (x2 : Int32) (x3 : Int32) (x4 : Int32) (x5 : Int32) (x6 : Int32) (S : zT), (zfix (fun _ _ _ _ _ _ _ => none) fX7_reachFrom_15 n15) x1 x2 x3 x4 x5 x6 S = some o → zFr [100] [] S o.2 := by
    intro n15
    induction n15 with
    | zero => intro x1 x2 x3 x4 x5 x6 S h; exact zno (show (none : Option (Int32 × zT)) = some o from h)
    | succ n15 ih15 =>
      intro x1 x2 x3 x4 x5 x6 S h
      replace h : fX7_reachFrom_15 (zfix (fun _ _ _ _ _ _ _ => none) fX7_reachFrom_15 n15) x1 x2 x3 x4 x5 x6 S = some o := h
      unfold fX7_reachFrom_15 at h
      have L71 : ∀ (x1 : Int32) (x2 : Int32) (x3 : Int32) (x4 : Int32) (x5 : Int32) (x6 : Int32) (S : zT), (fX7_reachFrom_71 (zfix (fun _ _ _ _ _ _ _ => none) fX7_reachFrom_15 n15)) x1 x2 x3 x4 x5 x6 S = some o → zFr [100] [] S o.2 := by
        intro x1 x2 x3 x4 x5 x6 S h
        unfold fX7_reachFrom_71 at h
        exact ih15 _ _ _ _ _ _ _ h
      rcases zif_or h with h | h
      · replace h := (zif_g h).2
        cases h
        exact zFr_rf _ _ _
      · obtain ⟨r_2, S_1, h9, h⟩ := zbi_inv h
        refine zFr_trans (zFr_mono (frX2_at h9) (by simp) (by simp)) ?_
        rcases zif_or h with h | h
        · obtain ⟨r_4, S_3, h9, h⟩ := zbi_inv h
          refine zFr_trans (zFr_mono (frX5_isSound h9) (by simp) (by simp)) ?_
          rcases zif_or h with h | h
          · exact L71 _ _ _ _ _ _ _ h
          · obtain ⟨r_6, S_5, h9, h⟩ := zbi_inv h
            refine zFr_trans (zFr_mono (frJ6_bitCount_0f7a4 h9) (by simp) (by simp)) ?_
            rcases zif_or h with h | h
            · exact L71 _ _ _ _ _ _ _ h
            · obtain ⟨S_7, h9, h⟩ := zbv_inv h
              refine zFr_trans (zFr_mono (frX2_put h9) (by simp) (by simp)) ?_
              exact L71 _ _ _ _ _ _ _ h
        · exact L71 _ _ _ _ _ _ _ h
  obtain ⟨r_9, S_8, h9, h⟩ := zbi_inv h
  refine zFr_trans (zFr_mono (frX6_fullSet h9) (by simp) (by simp)) ?_
  exact L15 zF _ _ _ _ _ _ _ h

set_option maxRecDepth 100000 in
set_option maxHeartbeats 4000000 in
theorem frX7_goFurther {a1 : Int32} {a2 : Int32} {S : zT} {o : Int32 × zT} (h : fX7_goFurther a1 a2 S = some o) : zFr [100] [] S o.2 := by
  unfold fX7_goFurther at h
  have L14 : ∀ (n14 : Nat) (x1 : Int32) (x2 : Int32) (x3 : Int32) (x4 : Int32) (x5 : Int32) (S : zT), (zfix (fun _ _ _ _ _ _ => none) fX7_goFurther_14 n14) x1 x2 x3 x4 x5 S = some o → zFr [100] [] S o.2 := by
    intro n14
    induction n14 with
    | zero => intro x1 x2 x3 x4 x5 S h; exact zno (show (none : Option (Int32 × zT)) = some o from h)
    | succ n14 ih14 =>
      intro x1 x2 x3 x4 x5 S h
      replace h : fX7_goFurther_14 (zfix (fun _ _ _ _ _ _ => none) fX7_goFurther_14 n14) x1 x2 x3 x4 x5 S = some o := h
      unfold fX7_goFurther_14 at h
      have L49 : ∀ (x1 : Int32) (x2 : Int32) (x3 : Int32) (x4 : Int32) (x5 : Int32) (S : zT), (fX7_goFurther_49 (zfix (fun _ _ _ _ _ _ => none) fX7_goFurther_14 n14)) x1 x2 x3 x4 x5 S = some o → zFr [100] [] S o.2 := by
        intro x1 x2 x3 x4 x5 S h
        unfold fX7_goFurther_49 at h
        exact ih14 _ _ _ _ _ _ h
      rcases zif_or h with h | h
      · replace h := (zif_g h).2
        cases h
        exact zFr_rf _ _ _
      · obtain ⟨r_2, S_1, h9, h⟩ := zbi_inv h
        refine zFr_trans (zFr_mono (frX2_at h9) (by simp) (by simp)) ?_
        rcases zif_or h with h | h
        · obtain ⟨r_4, S_3, h9, h⟩ := zbi_inv h
          refine zFr_trans (zFr_mono (frX7_reachFrom h9) (by simp) (by simp)) ?_
          rcases zif_or h with h | h
          · exact L49 _ _ _ _ _ _ h
          · exact L49 _ _ _ _ _ _ h
        · exact L49 _ _ _ _ _ _ h
  obtain ⟨r_6, S_5, h9, h⟩ := zbi_inv h
  refine zFr_trans (zFr_mono (frX6_fullSet h9) (by simp) (by simp)) ?_
  exact L14 zF _ _ _ _ _ _ h

set_option maxRecDepth 100000 in
set_option maxHeartbeats 4000000 in
theorem frX7_way {a1 : Int32} {a2 : Int32} {a3 : Int32} {S : zT} {o : Int32 × zT} (h : fX7_way a1 a2 a3 S = some o) : zFr [68, 70, 72, 74, 80, 81, 83, 85, 87, 89, 90, 91, 100] [] S o.2 := by
  unfold fX7_way at h
  have L79 : ∀ (n79 : Nat) (x1 : Int32) (x2 : Int32) (x3 : Int32) (x4 : Int32) (S : zT), (zfix (fun _ _ _ _ _ => none) fX7_way_79 n79) x1 x2 x3 x4 S = some o → zFr [68, 70, 72, 74, 80, 81, 83, 85, 87, 89, 90, 91, 100] [] S o.2 := by
    intro n79
    induction n79 with
    | zero => intro x1 x2 x3 x4 S h; exact zno (show (none : Option (Int32 × zT)) = some o from h)
    | succ n79 ih79 =>
      intro x1 x2 x3 x4 S h
      replace h : fX7_way_79 (zfix (fun _ _ _ _ _ => none) fX7_way_79 n79) x1 x2 x3 x4 S = some o := h
      unfold fX7_way_79 at h
      have L118 : ∀ (n118 : Nat) (x2 : Int32) (x3 : Int32) (x4 : Int32) (x5 : Int32) (S : zT), (zfix (fun _ _ _ _ _ => none) fX7_way_118 n118) x2 x3 x4 x5 S = some o → zFr [68, 70, 72, 74, 80, 81, 83, 85, 87, 89, 90, 91, 100] [] S o.2 := by
        intro n118
        induction n118 with
        | zero => intro x2 x3 x4 x5 S h; exact zno (show (none : Option (Int32 × zT)) = some o from h)
        | succ n118 ih118 =>
          intro x2 x3 x4 x5 S h
          replace h : fX7_way_118 (zfix (fun _ _ _ _ _ => none) fX7_way_118 n118) x2 x3 x4 x5 S = some o := h
          unfold fX7_way_118 at h
          have L158 : ∀ (x2 : Int32) (S : zT), fX7_way_158 x2 S = some o → zFr [68, 70, 72, 74, 80, 81, 83, 85, 87, 89, 90, 91, 100] [] S o.2 := by
            intro x2 S h
            unfold fX7_way_158 at h
            obtain ⟨r_2, S_1, h9, h⟩ := zbi_inv h
            refine zFr_trans (zFr_mono (frX2_at h9) (by simp) (by simp)) ?_
            cases h
            exact zFr_rf _ _ _
          rcases zif_or h with h | h
          · exact L158 _ _ h
          · rcases zif_or h with h | h
            · exact L158 _ _ h
            · obtain ⟨r_4, S_3, h9, h⟩ := zbi_inv h
              refine zFr_trans (zFr_mono (frX2_at h9) (by simp) (by simp)) ?_
              rcases zif_or h with h | h
              · obtain ⟨r_6, S_5, h9, h⟩ := zbi_inv h
                refine zFr_trans (zFr_mono (frX7_goFurther h9) (by simp) (by simp)) ?_
                exact ih118 _ _ _ _ _ h
              · exact L158 _ _ h
      rcases zif_or h with h | h
      · obtain ⟨S_7, h9, h⟩ := zbv_inv h
        refine zFr_trans (zFr_mono (frX2_put h9) (by simp) (by simp)) ?_
        exact L118 zF _ _ _ _ _ h
      · obtain ⟨S_8, h9, h⟩ := zbv_inv h
        refine zFr_trans (zFr_mono (frX2_put h9) (by simp) (by simp)) ?_
        exact ih79 _ _ _ _ _ h
  obtain ⟨r_10, S_9, h9, h⟩ := zbi_inv h
  refine zFr_trans (zFr_mono (frX6_hasSet h9) (by simp) (by simp)) ?_
  rcases zif_or h with h | h
  · cases h
    exact zFr_rf _ _ _
  · obtain ⟨r_12, S_11, h9, h⟩ := zbi_inv h
    refine zFr_trans (zFr_mono (frX6_hasSet h9) (by simp) (by simp)) ?_
    rcases zif_or h with h | h
    · cases h
      exact zFr_rf _ _ _
    · obtain ⟨r_14, S_13, h9, h⟩ := zbi_inv h
      refine zFr_trans (zFr_mono (frX7_isWithin h9) (by simp) (by simp)) ?_
      rcases zif_or h with h | h
      · cases h
        exact zFr_rf _ _ _
      · obtain ⟨S_15, h9, h⟩ := zbv_inv h
        refine zFr_trans (zFr_mono (frX6_copyFrom h9) (by simp) (by simp)) ?_
        obtain ⟨S_16, h9, h⟩ := zbv_inv h
        refine zFr_trans (zFr_mono (frX5_readPlaces h9) (by simp) (by simp)) ?_
        obtain ⟨r_18, S_17, h9, h⟩ := zbi_inv h
        refine zFr_trans (zFr_mono (frX5_isSound h9) (by simp) (by simp)) ?_
        rcases zif_or h with h | h
        · cases h
          exact zFr_rf _ _ _
        · obtain ⟨r_20, S_19, h9, h⟩ := zbi_inv h
          refine zFr_trans (zFr_mono (frX5_isSound h9) (by simp) (by simp)) ?_
          rcases zif_or h with h | h
          · cases h
            exact zFr_rf _ _ _
          · exact L79 zF _ _ _ _ _ h

