def of_w (x : Int32) (i : Nat) : Nat := x.toBitVec.toNat / 2 ^ (4 * i) % 16
theorem of_lt (x : Int32) (i : Nat) : of_w x i < 16 := Nat.mod_lt _ (by omega)
theorem of_f1 : ∀ j, j < 8 → (((4 * nI j).toUInt32 &&& Int32.toUInt32 31).toBitVec % 32).toNat = 4 * j := by decide +kernel
theorem of_f2 : ∀ j, j < 8 → ((4 * nI j &&& 31).toBitVec.smod 32).toNat = 4 * j := by decide +kernel
theorem shr_low16 (x sh : Int32) (k : Nat) (hk : k = 0 ∨ k = 4 ∨ k = 8 ∨ k = 12 ∨ k = 16 ∨ k = 20 ∨ k = 24 ∨ k = 28) (hs : ((sh &&& 31).toBitVec.smod 32).toNat = k) : (zshr x sh).toBitVec.toNat % 16 = x.toBitVec.toNat / 2 ^ k % 16 := by
  have h1 := pk_shr x (sh &&& 31) k hs
  have h2 := tn_toInt (x >>> (sh &&& 31))
  have h3 := tn_toInt x
  rw [h1, Int.shiftRight_eq_div_pow] at h2
  show (x >>> (sh &&& 31)).toBitVec.toNat % 16 = _
  generalize (x >>> (sh &&& 31)).toBitVec.toNat = Z at h2 ⊢
  have hx : x.toBitVec.toNat < 4294967296 := x.toBitVec.isLt
  generalize x.toBitVec.toNat = X at h3 hx ⊢
  generalize x.toInt = q at h2 h3
  rcases hk with rfl | rfl | rfl | rfl | rfl | rfl | rfl | rfl
  · have e1 : ((2 ^ 0 : Nat) : Int) = 1 := rfl
    rw [e1, Int.ediv_one] at h2
    rw [Nat.pow_zero, Nat.div_one]
    omega
  · simp only [show (2 : Nat) ^ 4 = 16 from rfl] at h2 ⊢
    omega
  · simp only [show (2 : Nat) ^ 8 = 256 from rfl] at h2 ⊢
    omega
  · simp only [show (2 : Nat) ^ 12 = 4096 from rfl] at h2 ⊢
    omega
  · simp only [show (2 : Nat) ^ 16 = 65536 from rfl] at h2 ⊢
    omega
  · simp only [show (2 : Nat) ^ 20 = 1048576 from rfl] at h2 ⊢
    omega
  · simp only [show (2 : Nat) ^ 24 = 16777216 from rfl] at h2 ⊢
    omega
  · simp only [show (2 : Nat) ^ 28 = 268435456 from rfl] at h2 ⊢
    omega
theorem of_c (x : Int32) {i : Nat} (hi : i < 8) : (zushr x (4 * nI i)) &&& 15 = nI (of_w x i) := by
  rw [pk_and _ 4 (m := 15) (by decide)]
  unfold zushr of_w
  rw [pk_ushr x (4 * nI i) (4 * i) (of_f1 i hi)]
theorem of_m (x : Int32) {i : Nat} (hi : i < 8) : (zshr x (4 * nI i)) &&& 15 = nI (of_w x i) := by
  rw [pk_and _ 4 (m := 15) (by decide)]
  unfold of_w
  rw [show (2 : Nat) ^ 4 = 16 from rfl, shr_low16 x (4 * nI i) (4 * i) (by omega) (of_f2 i hi)]
theorem c_offsetOf (x : Int32) {i : Nat} (hi : i < 8) (S : zT) : fX7_offsetOf x (nI i) S = some (nI (of_w x i), S) := by
  unfold fX7_offsetOf; rw [of_c x hi]
theorem c_layRow40 {b K N u : Nat} {x : Int32} {off : Nat → Nat} (hK : K ≤ 8) (hN : N ≤ 16) (hu : u < 2147483648) (ho : ∀ i, 1 ≤ i → i < K → of_w x i = off i ∧ off i < N) : ∀ (d i f : Nat) (S : zT), i + d = K → 1 ≤ i → d < f → S.1 b 6 = nI N → S.1 b 0 = nI K → (∀ t, t < N → S.1 (b + 6) t = nI (bs_b (fun j => decide (j < i) && bt_b off u N j t) 8)) → ∃ S', zfix (fun _ _ _ _ => none) (fX6_layRow_40 b) f (nI u) x (nI i) S = some S' ∧ zFr [b + 6] [] S S' ∧ ∀ t, t < N → S'.1 (b + 6) t = rw_s K off u N t := by
  intro d
  induction d with
  | zero =>
    intro i f S h1 hi h2 h6 h0 hs
    obtain ⟨f, rfl⟩ : ∃ g, f = g + 1 := ⟨f - 1, by omega⟩
    refine ⟨S, ?_, zFr_rf _ _ _, fun t ht => ?_⟩
    · rw [zfix_s]; unfold fX6_layRow_40
      rw [if_pos (by rw [h0]; exact nI_le (by omega) (by omega))]
    · rw [hs t ht]; unfold rw_s; rw [show i = K by omega]
  | succ d ih =>
    intro i f S h1 hi h2 h6 h0 hs
    obtain ⟨f, rfl⟩ : ∃ g, f = g + 1 := ⟨f - 1, by omega⟩
    obtain ⟨o1, o2⟩ := ho i hi (by omega)
    obtain ⟨Sa, ea, fa⟩ := c_layLeg (b := b) (i := i) (N := N) (u := u) (off := off i) (by omega) hN hu o2 S h6
    have fra := frX6_layLeg ea
    obtain ⟨S', e1, e2, e3⟩ := ih (i + 1) f Sa (by omega) (by omega) (by omega) (by rw [(fra b 6 (by simp) (by simp)).1, h6]) (by rw [(fra b 0 (by simp) (by simp)).1, h0]) (fun t ht => by
      rw [fa t, if_pos ht, hs t ht, sbI_bs _ (by omega)]
      rw [bs_congr 8 (fun j hj => ?_)]
      show bset_b (fun j => decide (j < i) && bt_b off u N j t) i (bt_b off u N i t) j = _
      unfold bset_b
      by_cases q : j = i
      · subst q; rw [if_pos rfl, decide_eq_true (show j < j + 1 by omega), Bool.true_and]
      · rw [if_neg q]
        show (decide (j < i) && bt_b off u N j t) = _
        by_cases q2 : j < i
        · rw [decide_eq_true q2, decide_eq_true (show j < i + 1 by omega)]
        · rw [decide_eq_false q2, decide_eq_false (show ¬ j < i + 1 by omega)])
    refine ⟨S', ?_, zFr_trans fra e2, e3⟩
    rw [zfix_s]; unfold fX6_layRow_40
    rw [if_neg (by rw [h0]; exact nI_ge (by omega) (by omega)), c_offsetOf x (by omega), zbi_s, o1, ea, zbv_s, nI_1]
    exact e1
theorem c_layRow {b K N u : Nat} {x : Int32} {off : Nat → Nat} (hK2 : 2 ≤ K) (hK : K ≤ 8) (hN1 : 1 ≤ N) (hN : N ≤ 16) (hu : u < 2147483648) (ho0 : off 0 = 0) (ho : ∀ i, 1 ≤ i → i < K → of_w x i = off i ∧ off i < N) (S : zT) (h0 : S.1 b 0 = nI K) : ∃ S', fX6_layRow b (nI N) (nI u) x S = some S' ∧ zFr [b + 6] [] (zsi S b 6 (nI N)) S' ∧ ∀ t, t < N → S'.1 (b + 6) t = rw_s K off u N t := by
  have key : ∀ (d t f : Nat) (S : zT), t + d = N → d < f → S.1 b 6 = nI N → S.1 b 0 = nI K → (∀ m, m < t → S.1 (b + 6) m = 0) → ∃ S', zfix (fun _ _ _ _ _ => none) (fX6_layRow_8 b) f (nI N) (nI u) x (nI t) S = some S' ∧ zFr [b + 6] [] S S' ∧ ∀ t, t < N → S'.1 (b + 6) t = rw_s K off u N t := by
    intro d
    induction d with
    | zero =>
      intro t f S h1 h2 h6 h0 hz
      obtain ⟨f, rfl⟩ : ∃ g, f = g + 1 := ⟨f - 1, by omega⟩
      obtain ⟨Sa, ea, fa⟩ := c_layLeg (b := b) (i := 0) (N := N) (u := u) (off := 0) (by omega) hN hu (by omega) S h6
      have fra := frX6_layLeg ea
      obtain ⟨S', e1, e2, e3⟩ := c_layRow40 hK hN hu ho (K - 1) 1 zF Sa (by omega) (by omega) (by unfold zF; omega) (by rw [(fra b 6 (by simp) (by simp)).1, h6]) (by rw [(fra b 0 (by simp) (by simp)).1, h0]) (fun t' ht => by
        rw [fa t', if_pos ht, hz t' (by omega), show (0 : Int32) = nI (bs_b (fun _ => false) 8) by rw [bs_zero]; rfl, sbI_bs _ (by omega)]
        rw [bs_congr 8 (fun j hj => ?_)]
        show bset_b (fun _ => false) 0 (decide (u ≤ (t' + N - 0) % N)) j = _
        unfold bset_b bt_b
        by_cases q : j = 0
        · subst q; rw [if_pos rfl, ho0]; rfl
        · rw [if_neg q, decide_eq_false (show ¬ j < 1 by omega)]; rfl)
      refine ⟨S', ?_, zFr_trans fra e2, e3⟩
      rw [zfix_s]; unfold fX6_layRow_8
      rw [if_pos (nI_le (by omega) (by omega))]
      rw [show fX6_layLeg b 0 (nI u) 0 S = some Sa from ea, zbv_s]
      exact e1
    | succ d ih =>
      intro t f S h1 h2 h6 h0 hz
      obtain ⟨f, rfl⟩ : ∃ g, f = g + 1 := ⟨f - 1, by omega⟩
      obtain ⟨S', e1, e2, e3⟩ := ih (t + 1) f (zsi S (b + 6) t 0) (by omega) (by omega) (by rw [zsi_n _ _ (by omega), h6]) (by rw [zsi_n _ _ (by omega), h0]) (fun m hm => by
        rw [zsi_k]; unfold upd
        by_cases q : m = t
        · rw [if_pos q]
        · rw [if_neg q]; exact hz m (by omega))
      refine ⟨S', ?_, zFr_trans (zFr_si (by simp)) e2, e3⟩
      rw [zfix_s]; unfold fX6_layRow_8
      rw [if_neg (nI_ge (by omega) (by omega)), put_in (by omega) (by omega), zbv_s, nI_1]
      exact e1
  obtain ⟨S', e1, e2, e3⟩ := key N 0 zF (zsi S b 6 (nI N)) (by omega) (by unfold zF; omega) (by rw [zsi_k, pk_us]) (by rw [zsi_k, pk_un (by omega), h0]) (fun m hm => by omega)
  refine ⟨S', ?_, e2, e3⟩
  unfold fX6_layRow
  rw [zlet_s]
  exact e1
/-! the model's -/
theorem m_row22 {K N u t : Nat} {off : Nat → Nat} {k10 : Int32 → Int32 → Int32 → zT → Option zT} {S : zT} (hK : K ≤ 8) (hN : N ≤ 16) (hu : u < 2147483648) (ht : t < N) (h0 : S.1 102 0 = nI K) (ho : ∀ i, i < K → S.1 107 i = nI (off i) ∧ off i < N) : ∀ (d i f : Nat), i + d = K → d < f → zfix (fun _ _ _ _ _ _ => none) (fX8_laysRow_22 k10) f (nI N) (nI u) (nI t) (nI (bs_b (fun j => bt_b off u N j t) i)) (nI i) S = fX8_laysRow_70 k10 (nI N) (nI u) (nI t) (rw_s K off u N t) S := by
  intro d
  induction d with
  | zero =>
    intro i f h1 h2
    obtain ⟨f, rfl⟩ : ∃ g, f = g + 1 := ⟨f - 1, by omega⟩
    rw [zfix_s]; unfold fX8_laysRow_22
    rw [if_pos (by rw [h0]; exact nI_le (by omega) (by omega)), rw_K hK, show i = K by omega]
  | succ d ih =>
    intro i f h1 h2
    obtain ⟨f, rfl⟩ : ∃ g, f = g + 1 := ⟨f - 1, by omega⟩
    obtain ⟨o1, o2⟩ := ho i (by omega)
    have e := ih (i + 1) f (by omega) (by omega)
    have hmod : (t + N - off i) % N < N := Nat.mod_lt _ (by omega)
    rw [zfix_s]; unfold fX8_laysRow_22
    rw [if_neg (by rw [h0]; exact nI_ge (by omega) (by omega)), if_neg (nI_ge ht (by omega)), if_pos (gin (by omega) (by omega)), if_pos (nI_ne0 (by omega) (by omega)), nI_clamp (by omega), o1, show (nI t - nI (off i)) + nI N = nI (t + N - off i) by
      rw [iZ_nI, iZ_nI, iZ_nI, iZ_nI, iZ_sub, iZ_add]; congr 1; omega, pk_rem (by omega) (by omega) (by omega)]
    unfold fX8_laysRow_64
    have hb : bs_b (fun j => bt_b off u N j t) (i + 1) = bs_b (fun j => bt_b off u N j t) i + (if bt_b off u N i t then 2 ^ i else 0) := rfl
    by_cases c : (t + N - off i) % N < u
    · rw [if_pos (nI_lt c (by omega)), nI_1]
      rw [hb, show bt_b off u N i t = false from decide_eq_false (by omega)] at e
      exact e
    · rw [if_neg (nI_nlt (by omega) (by omega)), or_fin i (by omega) _ (bs_lt _ i), nI_1]
      rw [hb, show bt_b off u N i t = true from decide_eq_true (by omega)] at e
      exact e
theorem m_laysRow {K N u : Nat} {off : Nat → Nat} (hK2 : 2 ≤ K) (hK : K ≤ 8) (hN1 : 1 ≤ N) (hN : N ≤ 16) (hu : u < 2147483648) (S : zT) (h0 : S.1 102 0 = nI K) (ho : ∀ i, i < K → S.1 107 i = nI (off i) ∧ off i < N) : ∃ S', fX8_laysRow (nI N) (nI u) S = some S' ∧ S'.1 102 = tk_w (S.1 102) N (rw_s K off u N) := by
  have key : ∀ (d t f : Nat) (S : zT), t + d = 16 → d < f → S.1 102 0 = nI K → (∀ i, i < K → S.1 107 i = nI (off i) ∧ off i < N) → ∃ S', zfix (fun _ _ _ _ => none) fX8_laysRow_10 f (nI N) (nI u) (nI t) S = some S' ∧ ∀ m, S'.1 102 m = if 23 + t ≤ m ∧ m < 39 then (if m - 23 < N then rw_s K off u N (m - 23) else 0) else S.1 102 m := by
    intro d
    induction d with
    | zero =>
      intro t f S h1 h2 h0 ho
      obtain ⟨f, rfl⟩ : ∃ g, f = g + 1 := ⟨f - 1, by omega⟩
      refine ⟨S, ?_, fun m => by rw [if_neg (by omega)]⟩
      rw [zfix_s]; unfold fX8_laysRow_10
      rw [if_pos (show (16 : Int32) ≤ nI t from nI_le (a := 16) (by omega) (by omega))]
    | succ d ih =>
      intro t f S h1 h2 h0 ho
      obtain ⟨f, rfl⟩ : ∃ g, f = g + 1 := ⟨f - 1, by omega⟩
      obtain ⟨v, hv⟩ : ∃ v, v = if t < N then rw_s K off u N t else (0 : Int32) := ⟨_, rfl⟩
      obtain ⟨S', e1, e2⟩ := ih (t + 1) f (zsi S 102 (23 + t) v) (by omega) (by omega) (by rw [zsi_k, pk_un (by omega), h0]) (fun i hi => by rw [zsi_n _ _ (by omega)]; exact ho i hi)
      have body : fX8_laysRow_70 (zfix (fun _ _ _ _ => none) fX8_laysRow_10 f) (nI N) (nI u) (nI t) v S = some S' := by
        unfold fX8_laysRow_70
        rw [show (23 : Int32) + nI t = nI (23 + t) from nI_add 23 t, if_pos (gin (by omega) (by omega)), nI_clamp (by omega), zlet_s, nI_1]
        exact e1
      refine ⟨S', ?_, fun m => ?_⟩
      · rw [zfix_s]; unfold fX8_laysRow_10
        rw [if_neg (show ¬ (16 : Int32) ≤ nI t from nI_ge (b := 16) (by omega) (by omega))]
        by_cases c : t < N
        · rw [if_pos c] at hv
          have := m_row22 (k10 := zfix (fun _ _ _ _ => none) fX8_laysRow_10 f) hK hN hu c h0 ho K 0 zF (by omega) (by unfold zF; omega)
          rw [← hv] at this
          exact this.trans body
        · rw [if_neg c] at hv
          subst hv
          show zfix (fun _ _ _ _ _ _ => none) (fX8_laysRow_22 (zfix (fun _ _ _ _ => none) fX8_laysRow_10 f)) (4095 + 1) _ _ _ _ _ _ = _
          rw [zfix_s]; unfold fX8_laysRow_22
          rw [if_neg (by rw [h0]; exact nI_ge (a := 0) (by omega) (by omega)), if_pos (nI_le (by omega) (by omega))]
          exact body
      · rw [e2 m, zsi_k]
        unfold upd
        by_cases q1 : 23 + (t + 1) ≤ m ∧ m < 39
        · rw [if_pos q1, if_pos (show 23 + t ≤ m ∧ m < 39 by omega)]
        · rw [if_neg q1]
          by_cases q2 : m = 23 + t
          · subst q2; rw [if_pos rfl, if_pos (show 23 + t ≤ 23 + t ∧ 23 + t < 39 by omega), show 23 + t - 23 = t by omega, hv]
          · rw [if_neg q2, if_neg (show ¬ (23 + t ≤ m ∧ m < 39) by omega)]
  obtain ⟨S', e1, e2⟩ := key 16 0 zF (zsi S 102 6 (nI N)) (by omega) (by unfold zF; omega) (by rw [zsi_k, pk_un (by omega), h0]) (fun i hi => by rw [zsi_n _ _ (by omega)]; exact ho i hi)
  refine ⟨S', ?_, funext fun m => ?_⟩
  · unfold fX8_laysRow; rw [zlet_s]; exact e1
  · rw [e2 m, zsi_k]
    unfold tk_w upd
    by_cases c1 : m = 6
    · subst c1; rw [if_neg (by omega), if_pos rfl, if_pos rfl]
    · rw [if_neg c1, if_neg c1]
