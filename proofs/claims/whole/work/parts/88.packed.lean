theorem shl_fin : ∀ i, i < 8 → ∀ d, d < 8 → zshl (nI d) (4 * nI i) = nI (d * 2 ^ (4 * i)) := by decide +kernel
theorem nI_or (a b : Nat) : nI a ||| nI b = nI (a ||| b) := by
  apply Int32.toBitVec_inj.mp
  rw [Int32.toBitVec_or]
  exact (BitVec.ofNat_or).symm
theorem of_nI {a i : Nat} (ha : a < 2147483648) : of_w (nI a) i = a / 2 ^ (4 * i) % 16 := by
  unfold of_w
  rw [show (nI a).toBitVec.toNat = a from by
    show (BitVec.ofNat 32 a).toNat = a
    rw [BitVec.toNat_ofNat, Nat.mod_eq_of_lt (by omega)]]
def pq_n (f : Nat → Nat) : Nat → Nat
  | 0 => 0
  | i + 1 => pq_n f i + (if i = 0 then 0 else f i * 2 ^ (4 * i))
theorem pq_lt {f : Nat → Nat} (hf : ∀ i, f i < 8) : ∀ i, pq_n f i < 2 ^ (4 * i)
  | 0 => show 0 < _ from Nat.pow_pos (by omega)
  | i + 1 => by
    have h := pq_lt hf i
    have h2 := hf i
    unfold pq_n
    rw [show 4 * (i + 1) = 4 * i + 4 by omega, Nat.pow_add]
    generalize 2 ^ (4 * i) = p at *
    by_cases c : i = 0
    · rw [if_pos c]; omega
    · rw [if_neg c]
      have : f i * p ≤ 7 * p := Nat.mul_le_mul_right _ (by omega)
      omega
theorem pq_lt2 {f : Nat → Nat} (hf : ∀ i, f i < 8) {i : Nat} (hi : i ≤ 8) : pq_n f i < 2147483648 := by
  by_cases c : i ≤ 7
  · have h := pq_lt hf i
    have : 2 ^ (4 * i) ≤ 2 ^ 28 := Nat.pow_le_pow_right (by omega) (by omega)
    omega
  · have : i = 7 + 1 := by omega
    subst this
    have h := pq_lt hf 7
    have h2 := hf 7
    have e2 : ∀ i, pq_n f (i + 1) = pq_n f i + (if i = 0 then 0 else f i * 2 ^ (4 * i)) := fun _ => rfl
    have e : 2 ^ (4 * 7) = 268435456 := by decide
    rw [e2, if_neg (by decide), e]
    rw [e] at h
    omega
theorem pq_dig {f : Nat → Nat} (hf : ∀ i, f i < 8) : ∀ (K i : Nat), 1 ≤ i → i < K → pq_n f K / 2 ^ (4 * i) % 16 = f i
  | 0, i, _, h => by omega
  | K + 1, i, h1, h => by
    have hp : 0 < 2 ^ (4 * i) := Nat.pow_pos (by omega)
    unfold pq_n
    rw [if_neg (show ¬ K = 0 by omega)]
    by_cases c : i = K
    · subst c
      have h2 := pq_lt hf i
      have h3 := hf i
      rw [Nat.add_comm, Nat.mul_comm, Nat.mul_add_div hp, Nat.div_eq_of_lt h2, Nat.add_zero, Nat.mod_eq_of_lt (by omega)]
    · have ih := pq_dig hf K i h1 (by omega)
      rw [show 2 ^ (4 * K) = 2 ^ (4 * i) * (16 * 2 ^ (4 * (K - i - 1))) by
        rw [show (16 : Nat) = 2 ^ 4 from rfl, ← Nat.pow_add, ← Nat.pow_add, show 4 * i + (4 + 4 * (K - i - 1)) = 4 * K by omega]]
      rw [show f K * (2 ^ (4 * i) * (16 * 2 ^ (4 * (K - i - 1)))) = 2 ^ (4 * i) * (f K * 2 ^ (4 * (K - i - 1)) * 16) by ac_rfl, Nat.add_mul_div_left _ _ hp, Nat.add_mul_mod_self_right]
      exact ih
theorem c_packed {K : Nat} {f : Nat → Nat} {S : zT} (hf : ∀ i, f i < 8) (hK1 : 1 ≤ K) (hK : K ≤ 8) (h0 : S.1 68 0 = nI K) (h95 : ∀ i, i < K → S.1 95 i = nI (f i)) : fX3_packedOffsets S = some (nI (pq_n f K), S) := by
  have key : ∀ (m i fu : Nat), i + m = K → 1 ≤ i → m < fu → zfix (fun _ _ _ => none) fX3_packedOffsets_4 fu (nI (pq_n f i)) (nI i) S = some (nI (pq_n f K), S) := by
    intro m
    induction m with
    | zero =>
      intro i fu h1 hi h2
      obtain ⟨fu, rfl⟩ : ∃ g, fu = g + 1 := ⟨fu - 1, by omega⟩
      have : i = K := by omega
      subst this
      rw [zfix_s]; unfold fX3_packedOffsets_4
      rw [if_pos (by rw [h0]; exact nI_le (by omega) (by omega))]
    | succ m ih =>
      intro i fu h1 hi h2
      obtain ⟨fu, rfl⟩ : ∃ g, fu = g + 1 := ⟨fu - 1, by omega⟩
      have e := ih (i + 1) fu (by omega) (by omega) (by omega)
      rw [zfix_s]; unfold fX3_packedOffsets_4
      rw [if_neg (by rw [h0]; exact nI_ge (by omega) (by omega)), at_in (by omega) (by omega), zbi_s, show S.1 (94 + 1) i = nI (f i) from h95 i (by omega), shl_fin i (by omega) _ (hf i), nI_or, nI_1]
      have : pq_n f i ||| f i * 2 ^ (4 * i) = pq_n f (i + 1) := by
        rw [Nat.or_comm, Nat.mul_comm, ← Nat.two_pow_add_eq_or_of_lt (pq_lt hf i)]
        show _ = pq_n f i + (if i = 0 then 0 else f i * 2 ^ (4 * i))
        rw [if_neg (by omega), Nat.mul_comm, Nat.add_comm]
      rw [this]
      exact e
  exact key (K - 1) 1 zF (by omega) (by omega) (by unfold zF; omega)
/-- the state after a class's search that laid row r, and the model's -/
theorem row_end {S S0 Sa S1 S2 Sb S3 : zT} {hs : List (Nat → Int32)} {K n N U r : Nat} (hI : zInv S) (hw : wfW (Gf S) K n) (hr : rC (Gf S) K n S 1) (hN1 : 2 ≤ N) (hN : N ≤ 8) (h0 : clsFr S S0) (ha : HC hs Sa) (fa : ∀ k j, k < 8 ∨ 66 ≤ k → Sa.1 k j = S0.1 k j) (f1 : zFr [7] [] (zsi Sa 1 6 (nI N)) S1) (f2 : ∀ t, t < N → S1.1 7 t = rw_s K (dgt N K r) U N t) (p : preM S1 S2) (hmb : HM hs Sb) (h4 : Sb.1 101 4 = 1) (h5 : ∀ k, k < 101 → Sb.1 k = S2.1 k) (fr3 : zFr [102, 107] [] Sb S3) (f4 : S3.1 102 = rowR (Gf S) K N U r) : zInv S3 := by
  have hK := hw.1.2.2
  have g0 : ∀ k j, k ≠ 7 → S1.1 k j = (zsi Sa 1 6 (nI N)).1 k j := fun k j h => (f1 k j (by simp; omega) (by simp)).1
  have g1 : ∀ k j, k ≠ 1 → k ≠ 7 → S1.1 k j = Sa.1 k j := fun k j h h2 => by rw [g0 k j h2, zsi_n _ _ h]
  refine zInv_mut (HC_frame (fun k h1 _ => funext fun j => g1 k j (by omega) (by omega)) ha) p (HM_frame (fr3.slot (by simp) (by simp)) (fr3.cell (by simp) (by omega)) hmb) ?_ (fun k hk => ?_) (K := K) (n := N) ?_ ?_
  · rw [fr3.slot (by simp) (by simp)]; exact h4
  · rw [fr3.cell (by simp; omega) (by omega)]; exact h5 k hk
  · rw [f4]; exact wf_row hw (by omega) (by omega)
  · rw [f4]
    refine rC_tk hK (by omega) hr (fun j hj => ?_) ?_ (fun j hj => ?_) (fun j hj => ?_) (fun t ht => ?_)
    · rw [g0 1 j (by omega), zsi_k, pk_un (by omega), fa 1 j (by omega), h0 1 j (by omega)]
    · rw [g0 1 6 (by omega), zsi_k, pk_us]
    · rw [g1 _ _ (by omega) (by omega), fa _ _ (by omega), h0 _ _ (by omega)]
    · rw [g1 _ _ (by omega) (by omega), fa _ _ (by omega), h0 _ _ (by omega)]
    · exact f2 t ht
