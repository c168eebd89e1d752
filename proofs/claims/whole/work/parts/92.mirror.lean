theorem lgF_in (w : Nat → Int32) (x y : Int32) : ∀ d i, lgF w x y d i = -1 ∨ ∃ t, i ≤ t ∧ t < i + d ∧ lgF w x y d i = nI t
  | 0, i => Or.inl rfl
  | d + 1, i => by
    have ih := lgF_in w x y d (i + 1)
    unfold lgF
    by_cases c1 : w (7 + i) = x
    · rw [if_pos c1]
      by_cases c2 : w (15 + i) = y
      · rw [if_pos c2]; exact Or.inr ⟨i, by omega, by omega, rfl⟩
      · rw [if_neg c2]
        rcases ih with h | ⟨t, h1, h2, h3⟩
        · exact Or.inl h
        · exact Or.inr ⟨t, by omega, by omega, h3⟩
    · rw [if_neg c1]
      rcases ih with h | ⟨t, h1, h2, h3⟩
      · exact Or.inl h
      · exact Or.inr ⟨t, by omega, by omega, h3⟩
theorem mF_all {w : Nat → Int32} {K : Nat} : ∀ d i, mF_w w K d i = true → ∀ j, i ≤ j → j < i + d → tw_w w K j ≠ -1
  | 0, i, _, j, h1, h2 => by omega
  | d + 1, i, h, j, h1, h2 => by
    unfold mF_w at h
    by_cases c : tw_w w K i = -1
    · rw [if_pos c] at h; cases h
    · rw [if_neg c] at h
      by_cases e : j = i
      · subst e; exact c
      · exact mF_all d (i + 1) h j (by omega) (by omega)
def tw_n (w : Nat → Int32) (K i : Nat) : Nat := (tw_w w K i).toNatClampNeg
theorem tw_in {w : Nat → Int32} {K i : Nat} (hK : K ≤ 8) (h : mi_w w K = true) (hi : i < K) : tw_w w K i = nI (tw_n w K i) ∧ tw_n w K i < K := by
  unfold mi_w at h
  have h1 := mF_all K 0 (by simp at h; exact h.1) i (by omega) (by omega)
  rcases lgF_in w (-(w (7 + i))) (w (15 + i)) K 0 with g | ⟨t, g1, g2, g3⟩
  · exact absurd g h1
  · have e : tw_w w K i = nI t := g3
    unfold tw_n
    rw [e, nI_clamp (by omega)]
    exact ⟨rfl, by omega⟩
theorem lgF_cg {w w' : Nat → Int32} {x y : Int32} (h : ∀ m, 7 ≤ m → m < 23 → w' m = w m) : ∀ d i, i + d ≤ 8 → lgF w' x y d i = lgF w x y d i
  | 0, i, _ => rfl
  | d + 1, i, hi => by
    unfold lgF
    rw [h (7 + i) (by omega) (by omega), h (15 + i) (by omega) (by omega), lgF_cg h d (i + 1) (by omega)]
theorem tw_cg {w w' : Nat → Int32} {K i : Nat} (hK : K ≤ 8) (hi : i < K) (h : ∀ m, 7 ≤ m → m < 23 → w' m = w m) : tw_w w' K i = tw_w w K i := by
  unfold tw_w lg_w
  rw [h (7 + i) (by omega) (by omega), h (15 + i) (by omega) (by omega), lgF_cg h K 0 (by omega)]
/-- the index of the mirror of row r -/
def mr_s (w : Nat → Int32) (K N r i : Nat) : Nat := (dgt N K r (tw_n w K i) + N - dgt N K r (tw_n w K 0)) % N
def mr_n (w : Nat → Int32) (K N r : Nat) : Nat → Nat
  | 0 => 0
  | i + 1 => if i = 0 then 0 else mr_n w K N r i * N + mr_s w K N r i
theorem mr_lt {w : Nat → Int32} {K N r : Nat} (hN : 0 < N) : ∀ i, 1 ≤ i → mr_n w K N r i < N ^ (i - 1)
  | 0, h => by omega
  | i + 1, _ => by
    unfold mr_n
    by_cases c : i = 0
    · subst c; rw [if_pos rfl]; exact Nat.pow_pos hN
    · rw [if_neg c]
      have ih := mr_lt (w := w) (K := K) (r := r) hN i (by omega)
      have h2 : mr_s w K N r i < N := Nat.mod_lt _ hN
      rw [show i + 1 - 1 = (i - 1) + 1 by omega, Nat.pow_succ]
      have : (mr_n w K N r i + 1) * N ≤ N ^ (i - 1) * N := Nat.mul_le_mul_right _ ih
      rw [Nat.add_mul] at this
      omega
theorem c_mirrorIx {w : Nat → Int32} {K n N u r : Nat} {S : zT} (hw : wfW w K n) (hN1 : 2 ≤ N) (hN : N ≤ 8) (hmi : mi_w w K = true) (hc : CR w K N u r S) : fX3_mirrorIndex S = some (nI (mr_n w K N r K), S) := by
  have hK := hw.1.2.2
  have hK2 := hw.1.2.1
  have hr := SO_rC hc.2.2
  have hwr : wfW (rowO w K N u (dgt N K r)) K N := wf_row hw (by omega) (by omega)
  have tw : ∀ i, i < K → fX6_twinOf 68 (nI i) S = some (nI (tw_n w K i), S) := fun i hi => by
    rw [c_twin hwr hr hi, tw_cg hK hi (fun m h1 h2 => rowO_lo h2 (by omega)), (tw_in hK hmi hi).1]
  have off : ∀ i, i < K → fX2_at 94 8 (nI (tw_n w K i)) S = some (nI (dgt N K r (tw_n w K i)), S) := fun i hi => by
    have := (tw_in hK hmi hi).2
    rw [at_in (by omega) (by omega), show S.1 (94 + 1) (tw_n w K i) = _ from hc.2.1 _ this]
  have key : ∀ (m i fu : Nat), i + m = K → 1 ≤ i → m < fu → zfix (fun _ _ _ _ => none) fX3_mirrorIndex_20 fu (nI (dgt N K r (tw_n w K 0))) (nI (mr_n w K N r i)) (nI i) S = some (nI (mr_n w K N r K), S) := by
    intro m
    induction m with
    | zero =>
      intro i fu h1 hi h2
      obtain ⟨fu, rfl⟩ : ∃ g, fu = g + 1 := ⟨fu - 1, by omega⟩
      have : i = K := by omega
      subst this
      rw [zfix_s]; unfold fX3_mirrorIndex_20
      rw [if_pos (by rw [hr.1.1, rowO_lo (by omega) (by omega), hw.1.1]; exact nI_le (by omega) (by omega))]
    | succ m ih =>
      intro i fu h1 hi h2
      obtain ⟨fu, rfl⟩ : ∃ g, fu = g + 1 := ⟨fu - 1, by omega⟩
      have e := ih (i + 1) fu (by omega) (by omega) (by omega)
      have d0 := dgt_lt (N := N) (K := K) (r := r) (i := tw_n w K 0) (by omega)
      have di := dgt_lt (N := N) (K := K) (r := r) (i := tw_n w K i) (by omega)
      have em : mr_n w K N r (i + 1) = mr_n w K N r i * N + mr_s w K N r i := by
        show (if i = 0 then 0 else _) = _
        rw [if_neg (by omega)]
      have s6 : S.1 68 6 = nI N := by rw [hr.1.2.2.2.2.2.2]; unfold rowO tk_w; rw [if_pos rfl]
      rw [zfix_s]; unfold fX3_mirrorIndex_20 fX3_mirrorIndex_79
      rw [if_neg (by rw [hr.1.1, rowO_lo (by omega) (by omega), hw.1.1]; exact nI_ge (by omega) (by omega)), tw i (by omega), zbi_s, off i (by omega), zbi_s, s6, pk_mul, nI_1]
      unfold mr_s at em
      by_cases c : dgt N K r (tw_n w K 0) ≤ dgt N K r (tw_n w K i)
      · have hz : (0 : Int32) ≤ nI (dgt N K r (tw_n w K i) - dgt N K r (tw_n w K 0)) := show nI 0 ≤ nI (dgt N K r (tw_n w K i) - dgt N K r (tw_n w K 0)) from nI_le (by omega) (by omega)
        rw [show nI (dgt N K r (tw_n w K i)) - nI (dgt N K r (tw_n w K 0)) = nI (dgt N K r (tw_n w K i) - dgt N K r (tw_n w K 0)) from pk_sub c, if_pos hz, nI_add]
        rw [show dgt N K r (tw_n w K i) + N - dgt N K r (tw_n w K 0) = dgt N K r (tw_n w K i) - dgt N K r (tw_n w K 0) + N by omega, Nat.add_mod_right, Nat.mod_eq_of_lt (by omega)] at em
        rw [em] at e
        exact e
      · rw [if_neg (by rw [iZ_nI, iZ_nI, iZ_sub, show (0 : Int32) = iZ 0 from rfl, iZ_le (by omega) (by omega) (by omega) (by omega)]; omega), show nI (dgt N K r (tw_n w K i)) - nI (dgt N K r (tw_n w K 0)) + nI N = nI (dgt N K r (tw_n w K i) + N - dgt N K r (tw_n w K 0)) by
          rw [iZ_nI, iZ_nI, iZ_nI, iZ_nI, iZ_sub, iZ_add, show ((dgt N K r (tw_n w K i) + N - dgt N K r (tw_n w K 0) : Nat) : Int) = (dgt N K r (tw_n w K i) : Int) - (dgt N K r (tw_n w K 0) : Int) + (N : Int) by omega], nI_add]
        rw [Nat.mod_eq_of_lt (by omega)] at em
        rw [em] at e
        exact e
  unfold fX3_mirrorIndex
  rw [show fX6_twinOf 68 0 S = some (nI (tw_n w K 0), S) from tw 0 (by omega), zbi_s, off 0 (by omega), zbi_s]
  exact key (K - 1) 1 zF (by omega) (by omega) (by unfold zF; omega)
theorem m_mirrorIx {w : Nat → Int32} {K n N u r : Nat} {S : zT} (hw : wfW w K n) (hN1 : 2 ≤ N) (hN : N ≤ 8) (hmi : mi_w w K = true) (h102 : S.1 102 = rowR w K N u r) (h107 : ∀ i, i < K → S.1 107 i = nI (dgt N K r i)) : fX8_mirror (nI N) S = some (nI (mr_n w K N r K), S) := by
  have hK := hw.1.2.2
  have hK2 := hw.1.2.1
  have hwr : wfW (S.1 102) K N := by rw [h102]; exact wf_row hw (by omega) (by omega)
  have tw : ∀ i, i < K → fX8_twin (nI i) S = some (nI (tw_n w K i), S) := fun i hi => by
    rw [m_twin hwr hi, h102]; unfold rowR; rw [tw_cg hK hi (fun m h1 h2 => rowO_lo h2 (by omega)), (tw_in hK hmi hi).1]
  have key : ∀ (m i fu : Nat), i + m = K → 1 ≤ i → m < fu → zfix (fun _ _ _ _ _ => none) fX8_mirror_16 fu (nI N) (nI (mr_n w K N r i)) (nI (dgt N K r (tw_n w K 0))) (nI i) S = some (nI (mr_n w K N r K), S) := by
    intro m
    induction m with
    | zero =>
      intro i fu h1 hi h2
      obtain ⟨fu, rfl⟩ : ∃ g, fu = g + 1 := ⟨fu - 1, by omega⟩
      have : i = K := by omega
      subst this
      rw [zfix_s]; unfold fX8_mirror_16
      rw [if_pos (by rw [hwr.1.1]; exact nI_le (by omega) (by omega))]
    | succ m ih =>
      intro i fu h1 hi h2
      obtain ⟨fu, rfl⟩ : ∃ g, fu = g + 1 := ⟨fu - 1, by omega⟩
      have e := ih (i + 1) fu (by omega) (by omega) (by omega)
      have d0 := dgt_lt (N := N) (K := K) (r := r) (i := tw_n w K 0) (by omega)
      have di := dgt_lt (N := N) (K := K) (r := r) (i := tw_n w K i) (by omega)
      have ti := (tw_in hK hmi (show i < K by omega)).2
      have em : mr_n w K N r (i + 1) = mr_n w K N r i * N + mr_s w K N r i := by
        show (if i = 0 then 0 else _) = _
        rw [if_neg (by omega)]
      rw [zfix_s]; unfold fX8_mirror_16
      rw [if_neg (by rw [hwr.1.1]; exact nI_ge (by omega) (by omega)), tw i (by omega), zbi_s, if_pos (gin (by omega) (by omega)), if_pos (nI_ne0 (by omega) (by omega)), nI_clamp (by omega), h107 _ ti, show nI (dgt N K r (tw_n w K i)) - nI (dgt N K r (tw_n w K 0)) + nI N = nI (dgt N K r (tw_n w K i) + N - dgt N K r (tw_n w K 0)) by
          rw [iZ_nI, iZ_nI, iZ_nI, iZ_nI, iZ_sub, iZ_add, show ((dgt N K r (tw_n w K i) + N - dgt N K r (tw_n w K 0) : Nat) : Int) = (dgt N K r (tw_n w K i) : Int) - (dgt N K r (tw_n w K 0) : Int) + (N : Int) by omega], pk_rem (by omega) (by omega) (by omega), pk_mul, nI_add, nI_1, Nat.mul_comm N]
      unfold mr_s at em
      rw [em] at e
      exact e
  have t0 := (tw_in hK hmi (show 0 < K by omega)).2
  unfold fX8_mirror
  rw [show fX8_twin 0 S = some (nI (tw_n w K 0), S) from tw 0 (by omega), zbi_s, if_pos (gin (by omega) (by omega)), nI_clamp (by omega), h107 _ t0]
  exact key (K - 1) 1 zF (by omega) (by omega) (by unfold zF; omega)
