def dW (w : Nat → Int32) (i e : Nat) : Nat → Int32 := fun j => if 7 + i ≤ j ∧ j < 7 + e then w (j + 1) else if 15 + i ≤ j ∧ j < 15 + e then w (j + 1) else w j
def dB (w : Nat → Int32) (K i : Nat) : Nat → Int32 := tk_w (upd (dW w i (K - 1)) 0 (nI (K - 1))) 1 (fun _ => 0)
theorem tkA_tk (w : Nat → Int32) (s : Nat → Int32) : tkA (tk_w w 1 s) w := by
  intro N s'
  funext m
  unfold tk_w
  by_cases c : m = 6
  · rw [if_pos c, if_pos c]
  · rw [if_neg c, if_neg c, if_neg c]
    by_cases c2 : 23 ≤ m ∧ m < 39
    · rw [if_pos c2, if_pos c2]
    · rw [if_neg c2, if_neg c2, if_neg c2]
theorem wf_dB {w : Nat → Int32} {K n i : Nat} (hw : wfW w K n) (hK3 : 3 ≤ K) (hi : i < K) : wfW (dB w K i) (K - 1) 1 := by
  obtain ⟨⟨a0, a1, a2⟩, ⟨b0, b1, b2⟩, c1, c2, c3, c4, c5, c6, c7, c8⟩ := hw
  have lo : ∀ m, m < 7 → m ≠ 6 → m ≠ 0 → dB w K i m = w m := fun m h1 h2 h3 => by
    unfold dB tk_w
    rw [if_neg h2, if_neg (by omega), pk_un h3]
    unfold dW
    rw [if_neg (by omega), if_neg (by omega)]
  refine ⟨⟨?_, by omega, by omega⟩, ⟨by unfold dB tk_w; rw [if_pos rfl], by omega, by omega⟩, by rw [lo 1 (by omega) (by omega) (by omega)]; exact c1, by rw [lo 2 (by omega) (by omega) (by omega)]; exact c2, by rw [lo 3 (by omega) (by omega) (by omega)]; exact c3, by rw [lo 4 (by omega) (by omega) (by omega)]; exact c4, by rw [lo 5 (by omega) (by omega) (by omega)]; exact c5, fun j hj => ⟨?_, ?_⟩, fun t ht => ⟨0, Nat.pow_pos (by omega), ?_⟩, fun t h1 h2 => ?_⟩
  · unfold dB tk_w; rw [if_neg (by omega), if_neg (by omega), pk_us]
  · unfold dB tk_w
    rw [if_neg (by omega), if_neg (by omega), pk_un (by omega)]
    unfold dW
    by_cases c : 7 + i ≤ 7 + j ∧ 7 + j < 7 + (K - 1)
    · rw [if_pos c]; exact (c6 (j + 1) (by omega)).1
    · rw [if_neg c, if_neg (by omega)]; exact (c6 j (by omega)).1
  · unfold dB tk_w
    rw [if_neg (by omega), if_neg (by omega), pk_un (by omega)]
    unfold dW
    rw [if_neg (by omega)]
    by_cases c : 15 + i ≤ 15 + j ∧ 15 + j < 15 + (K - 1)
    · rw [if_pos c]; exact (c6 (j + 1) (by omega)).2
    · rw [if_neg c]; exact (c6 j (by omega)).2
  · unfold dB tk_w; rw [if_neg (by omega), if_pos (by omega), if_pos (by omega)]; rfl
  · unfold dB tk_w
    by_cases c : t < 16
    · rw [if_neg (by omega), if_pos (by omega), if_neg (by omega)]
    · rw [if_neg (by omega), if_neg (by omega), pk_un (by omega)]
      unfold dW
      rw [if_neg (by omega), if_neg (by omega)]
      by_cases c2 : n ≤ t
      · exact c8 t c2 h2
      · omega
theorem c_drop {w : Nat → Int32} {K n i : Nat} {S : zT} (hw : wfW w K n) (hK3 : 3 ≤ K) (hi : i < K) (hr : rC w K n S 68) : ∃ S', fX6_dropLeg 68 (nI i) S = some S' ∧ rC (upd (dW w i (K - 1)) 0 (nI (K - 1))) (K - 1) n S' 68 := by
  have hK := hw.1.2.2
  have hn := hw.2.1.2.2
  have key : ∀ (m j fu : Nat) (S1 : zT), j + m = K - 1 → i ≤ j → m < fu → S1.1 68 0 = nI (K - 1) → (∀ k, 1 ≤ k → k < 7 → S1.1 68 k = S.1 68 k) → S1.1 74 = S.1 74 → (∀ k, k < K → S1.1 70 k = if i ≤ k ∧ k < j then w (7 + k + 1) else w (7 + k)) → (∀ k, k < K → S1.1 72 k = if i ≤ k ∧ k < j then w (15 + k + 1) else w (15 + k)) → ∃ S', zfix (fun _ _ => none) (fX6_dropLeg_12 68) fu (nI j) S1 = some S' ∧ S'.1 68 0 = nI (K - 1) ∧ (∀ k, 1 ≤ k → k < 7 → S'.1 68 k = S.1 68 k) ∧ S'.1 74 = S.1 74 ∧ (∀ k, k < K → S'.1 70 k = if i ≤ k ∧ k < K - 1 then w (7 + k + 1) else w (7 + k)) ∧ (∀ k, k < K → S'.1 72 k = if i ≤ k ∧ k < K - 1 then w (15 + k + 1) else w (15 + k)) := by
    intro m
    induction m with
    | zero =>
      intro j fu S1 h1 hj h2 a b c d e
      obtain ⟨fu, rfl⟩ : ∃ g, fu = g + 1 := ⟨fu - 1, by omega⟩
      have : j = K - 1 := by omega
      subst this
      refine ⟨S1, ?_, a, b, c, d, e⟩
      rw [zfix_s]; unfold fX6_dropLeg_12
      rw [if_pos (by rw [a]; exact nI_le (by omega) (by omega))]
    | succ m ih =>
      intro j fu S1 h1 hj h2 a b c d e
      obtain ⟨fu, rfl⟩ : ∃ g, fu = g + 1 := ⟨fu - 1, by omega⟩
      have d1 : S1.1 70 (j + 1) = w (7 + j + 1) := by rw [d (j + 1) (by omega), if_neg (by omega), show 7 + (j + 1) = 7 + j + 1 by omega]
      have e1 : S1.1 72 (j + 1) = w (15 + j + 1) := by rw [e (j + 1) (by omega), if_neg (by omega), show 15 + (j + 1) = 15 + j + 1 by omega]
      obtain ⟨S', f1, f2⟩ := ih (j + 1) fu (zsi (zsi S1 70 j (w (7 + j + 1))) 72 j (w (15 + j + 1))) (by omega) (by omega) (by omega) (by rw [zsi_n _ _ (by omega), zsi_n _ _ (by omega)]; exact a) (fun k k1 k2 => by rw [zsi_n _ _ (by omega), zsi_n _ _ (by omega)]; exact b k k1 k2) (by rw [zsi_n _ _ (by omega), zsi_n _ _ (by omega)]; exact c) (fun k hk => by
          rw [zsi_n _ _ (by omega), zsi_k]
          by_cases q : k = j
          · subst q; rw [pk_us, if_pos (by omega)]
          · rw [pk_un q, d k hk]
            by_cases q2 : i ≤ k ∧ k < j
            · rw [if_pos q2, if_pos (by omega)]
            · rw [if_neg q2, if_neg (by omega)]) (fun k hk => by
          rw [zsi_k, zsi_n _ _ (by omega)]
          by_cases q : k = j
          · subst q; rw [pk_us, if_pos (by omega)]
          · rw [pk_un q, e k hk]
            by_cases q2 : i ≤ k ∧ k < j
            · rw [if_pos q2, if_pos (by omega)]
            · rw [if_neg q2, if_neg (by omega)])
      refine ⟨S', ?_, f2⟩
      rw [zfix_s]; unfold fX6_dropLeg_12
      rw [if_neg (by rw [a]; exact nI_ge (by omega) (by omega)), nI_1, at_in (by omega) (by omega), zbi_s, show S1.1 (68 + 1 + 1) (j + 1) = w (7 + j + 1) from d1, put_in (by omega) (by omega), zbv_s, at_in (by omega) (by omega), zbi_s, show (zsi S1 (68 + 1 + 1) j (w (7 + j + 1))).1 (68 + 3 + 1) (j + 1) = w (15 + j + 1) by rw [zsi_n _ _ (by omega)]; exact e1, put_in (by omega) (by omega), zbv_s]
      exact f1
  obtain ⟨S', e1, e2, e3, e4, e5, e6⟩ := key (K - 1 - i) i zF (zsi S 68 0 (nI (K - 1))) (by omega) (by omega) (by unfold zF; omega) (by rw [zsi_k, pk_us]) (fun k k1 k2 => by rw [zsi_k, pk_un (by omega)]) (by rw [zsi_n _ _ (by omega)]) (fun k hk => by rw [zsi_n _ _ (by omega), if_neg (by omega)]; exact hr.2.1 k hk) (fun k hk => by rw [zsi_n _ _ (by omega), if_neg (by omega)]; exact hr.2.2.1 k hk)
  refine ⟨S', ?_, ?_⟩
  · unfold fX6_dropLeg
    rw [hr.1.1, hw.1.1, show nI K - 1 = nI (K - 1) from pk_sub (b := 1) (by omega), zlet_s]
    exact e1
  · have lo : ∀ m, m ≠ 0 → (m < 7 ∨ 23 ≤ m) → upd (dW w i (K - 1)) 0 (nI (K - 1)) m = w m := fun m h1 h2 => by
      rw [pk_un h1]; unfold dW; rw [if_neg (by omega), if_neg (by omega)]
    obtain ⟨⟨q0, q1, q2, q3, q4, q5, q6⟩, p1, p2, p3⟩ := hr
    refine ⟨⟨by rw [e2, pk_us], by rw [e3 1 (by omega) (by omega), q1, lo 1 (by omega) (by omega)], by rw [e3 2 (by omega) (by omega), q2, lo 4 (by omega) (by omega)], by rw [e3 3 (by omega) (by omega), q3, lo 5 (by omega) (by omega)], by rw [e3 4 (by omega) (by omega), q4, lo 2 (by omega) (by omega)], by rw [e3 5 (by omega) (by omega), q5, lo 3 (by omega) (by omega)], by rw [e3 6 (by omega) (by omega), q6, lo 6 (by omega) (by omega)]⟩, fun k hk => ?_, fun k hk => ?_, fun t ht => ?_⟩
    · rw [show S'.1 (68 + 2) k = S'.1 70 k from rfl, e5 k (by omega), pk_un (by omega)]
      unfold dW
      by_cases c : i ≤ k ∧ k < K - 1
      · rw [if_pos c, if_pos (by omega)]
      · rw [if_neg c, if_neg (by omega), if_neg (by omega)]
    · rw [show S'.1 (68 + 4) k = S'.1 72 k from rfl, e6 k (by omega), pk_un (by omega)]
      unfold dW
      rw [if_neg (show ¬ (7 + i ≤ 15 + k ∧ 15 + k < 7 + (K - 1)) by omega)]
      by_cases c : i ≤ k ∧ k < K - 1
      · rw [if_pos c, if_pos (by omega)]
      · rw [if_neg c, if_neg (by omega)]
    · rw [show S'.1 (68 + 6) = S.1 74 from e4, show S.1 74 t = w (23 + t) from p3 t ht, lo (23 + t) (by omega) (by omega)]
noncomputable def wo_v (a1 a2 a3 : Int32) (w : Nat → Int32) (K : Nat) : Int32 := if a1 < 0 then -1 else if w 0 ≤ a1 then -1 else if w 0 ≤ 2 then -1 else if w 1 = 2 then -1 else mn_v a2 a3 (dB w K a1.toNatClampNeg) (K - 1)
theorem m_drop {w : Nat → Int32} {K n i : Nat} {a2 a3 : Int32} (hw : wfW w K n) (hK3 : 3 ≤ K) (hi : i < K) (ht : tld a2 a3 (K - 1)) : ∀ (m j fu : Nat) (S : zT), j + m = K - 1 → i ≤ j → m < fu → S.1 102 = dW w i j → asd w S → ∃ S', zfix (fun _ _ _ _ => none) fX8_without_64 fu a2 a3 (nI j) S = some (mn_v a2 a3 (dB w K i) (K - 1), S') ∧ S'.1 102 = w ∧ modX S S' := by
  have hK := hw.1.2.2
  have d0 : ∀ j, dW w i j 0 = nI K := fun j => by unfold dW; rw [if_neg (by omega), if_neg (by omega)]; exact hw.1.1
  intro m
  induction m with
  | zero =>
    intro j fu S h1 hj h2 hS ha
    obtain ⟨fu, rfl⟩ : ∃ g, fu = g + 1 := ⟨fu - 1, by omega⟩
    have : j = K - 1 := by omega
    subst this
    have s1 : (zsi S 102 0 (nI (K - 1))).1 102 = upd (dW w i (K - 1)) 0 (nI (K - 1)) := by rw [zsi_k, hS]
    obtain ⟨S2, e2, k2⟩ := m_manyOf (w := dB w K i) (S := zsi S 102 0 (nI (K - 1))) (a1 := a2) (a2 := a3) (wf_dB hw hK3 hi) (by rw [s1]; exact tkA_tk _ _) ht
    have fr2 := frX8_manyOf e2
    obtain ⟨S3, e3, k3, x3⟩ := m_backw (w := w) (S := S2) ⟨fun j hj => by rw [fr2.cell (by simp) (by omega), zsi_n _ _ (by omega)]; exact ha.1 j hj, fun j hj => by
      rw [k2 j hj]; unfold dB tk_w; rw [if_neg (by omega), if_neg (by omega), pk_un (by omega)]; unfold dW; rw [if_neg (by omega), if_neg (by omega)]⟩
    refine ⟨S3, ?_, k3, modX_tr (modX_si (k := 102) (by omega) (by omega)) (modX_tr (modX_of fr2 (by simp) (by simp) (by simp)) x3)⟩
    rw [zfix_s]; unfold fX8_without_64
    rw [hS, d0, nI_1, if_pos (nI_le (by omega) (by omega)), show nI K - 1 = nI (K - 1) from pk_sub (b := 1) (by omega), zlet_s, e2, zbi_s, e3, zbv_s]
  | succ m ih =>
    intro j fu S h1 hj h2 hS ha
    obtain ⟨fu, rfl⟩ : ∃ g, fu = g + 1 := ⟨fu - 1, by omega⟩
    have v1 : dW w i j (7 + j + 1) = w (7 + j + 1) := by unfold dW; rw [if_neg (by omega), if_neg (by omega)]
    have v2 : upd (dW w i j) (7 + j) (w (7 + j + 1)) (15 + j + 1) = w (15 + j + 1) := by rw [pk_un (by omega)]; unfold dW; rw [if_neg (by omega), if_neg (by omega)]
    have s2 : (zsi (zsi S 102 (7 + j) (w (7 + j + 1))) 102 (15 + j) (w (15 + j + 1))).1 102 = dW w i (j + 1) := by
      rw [zsi_k, zsi_k, hS]
      funext k
      unfold upd dW
      by_cases q1 : k = 15 + j
      · subst q1; rw [if_pos rfl, if_neg (by omega), if_pos (by omega)]
      · rw [if_neg q1]
        by_cases q2 : k = 7 + j
        · subst q2; rw [if_pos rfl, if_pos (by omega)]
        · rw [if_neg q2]
          by_cases q3 : 7 + i ≤ k ∧ k < 7 + j
          · rw [if_pos q3, if_pos (by omega)]
          · rw [if_neg q3, if_neg (show ¬ (7 + i ≤ k ∧ k < 7 + (j + 1)) by omega)]
            by_cases q4 : 15 + i ≤ k ∧ k < 15 + j
            · rw [if_pos q4, if_pos (by omega)]
            · rw [if_neg q4, if_neg (by omega)]
    obtain ⟨S', e1, e2, e3⟩ := ih (j + 1) fu (zsi (zsi S 102 (7 + j) (w (7 + j + 1))) 102 (15 + j) (w (15 + j + 1))) (by omega) (by omega) (by omega) s2 ⟨fun k hk => by rw [zsi_n _ _ (by omega), zsi_n _ _ (by omega)]; exact ha.1 k hk, fun k hk => by rw [s2]; unfold dW; rw [if_neg (by omega), if_neg (by omega)]⟩
    refine ⟨S', ?_, e2, modX_tr (modX_si (k := 102) (by omega) (by omega)) (modX_tr (modX_si (k := 102) (by omega) (by omega)) e3)⟩
    rw [zfix_s]; unfold fX8_without_64
    rw [show (7 : Int32) + nI j = nI (7 + j) from nI_add 7 j, show (15 : Int32) + nI j = nI (15 + j) from nI_add 15 j, nI_1, nI_1, nI_1, hS, d0, if_neg (nI_ge (by omega) (by omega)), if_pos (gin (by omega) (by omega)), if_pos (gin (by omega) (by omega)), zlet_s, if_pos (gin (by omega) (by omega)), if_pos (gin (by omega) (by omega)), zlet_s, nI_clamp (by omega), nI_clamp (by omega), nI_clamp (by omega), nI_clamp (by omega), v1, zsi_k, hS, v2]
    exact e1
theorem K_without : zK_without zInv := by
  intro a1 a2 a3
  refine zO_query (fun w K _ => wo_v a1 a2 a3 w K) (fun S w K n hw hr => ?_) (fun S => rfl) (fun S K n hw hb => ?_)
  · have hK := hw.1.2.2
    show ∃ S1, fX7_without a1 a2 a3 S = some (wo_v a1 a2 a3 w K, S1) ∧ clsFr S S1
    unfold wo_v
    by_cases q1 : a1 < 0
    · rw [if_pos q1]; refine ⟨S, ?_, clsFr_rf S⟩
      unfold fX7_without; rw [c_hasLeg hr, zbi_s, if_pos q1, if_pos rfl]
    rw [if_neg q1]
    by_cases q2 : w 0 ≤ a1
    · rw [if_pos q2]; refine ⟨S, ?_, clsFr_rf S⟩
      unfold fX7_without; rw [c_hasLeg hr, zbi_s, if_neg q1, if_pos q2, if_pos rfl]
    rw [if_neg q2]
    by_cases q3 : w 0 ≤ 2
    · rw [if_pos q3]; refine ⟨S, ?_, clsFr_rf S⟩
      unfold fX7_without; rw [c_hasLeg hr, zbi_s, if_neg q1, if_neg q2, if_neg one_ne, hr.1.1, if_pos q3]
    rw [if_neg q3]
    by_cases q4 : w 1 = 2
    · rw [if_pos q4]; refine ⟨S, ?_, clsFr_rf S⟩
      unfold fX7_without; rw [c_hasLeg hr, zbi_s, if_neg q1, if_neg q2, if_neg one_ne, hr.1.1, if_neg q3, hr.1.2.1, if_pos q4]
    rw [if_neg q4]
    obtain ⟨i, i1, rfl⟩ := in_of (K := K) (by omega) q1 (by rw [← hw.1.1]; exact q2)
    have hK3 : 3 ≤ K := by
      rcases Nat.lt_or_ge K 3 with g | g
      · exact absurd (by rw [hw.1.1]; exact (nI_le (by omega) (by omega) : nI K ≤ nI 2)) q3
      · exact g
    obtain ⟨S1, e1, r1⟩ := c_copy hw hr
    obtain ⟨S2, e2, r2⟩ := c_drop hw hK3 i1 r1
    obtain ⟨S3, e3⟩ := c_countRows (w := dB w K i) (a1 := a2) (a2 := a3) (wf_dB hw hK3 i1) (tkA_tk _ _) r2
    have e4 : fX7_without (nI i) a2 a3 S = some (mn_v a2 a3 (dB w K i) (K - 1), S3) := by
      unfold fX7_without; rw [c_hasLeg hr, zbi_s, if_neg q1, if_neg q2, if_neg one_ne, hr.1.1, if_neg q3, hr.1.2.1, if_neg q4, e1, zbv_s, e2, zbv_s, e3, zbi_s]
    rw [nI_clamp (by omega)]
    exact ⟨S3, e4, cls_of (frX7_without e4) (fun k hk => by simp; omega)⟩
  · have hK := hw.1.2.2
    have hK2 := hw.1.2.1
    show ∃ S1, _ = some (wo_v a1 a2 a3 (S.1 102) K, S1) ∧ modFr S S1
    unfold wo_v
    rw [m_isLeg, zbi_s]
    by_cases q1 : a1 < 0
    · rw [if_pos q1, if_pos q1, if_pos rfl]; exact ⟨S, rfl, modFr_rf S⟩
    rw [if_neg q1, if_neg q1]
    by_cases q2 : S.1 102 0 ≤ a1
    · rw [if_pos q2, if_pos q2, if_pos rfl]; exact ⟨S, rfl, modFr_rf S⟩
    rw [if_neg q2, if_neg q2, if_neg one_ne]
    have h3 : (S.1 102 0 < 3) ↔ K < 3 := by
      rw [hw.1.1, show (3 : Int32) = nI 3 from rfl, iZ_nI, iZ_nI, iZ_lt (by omega) (by omega) (by omega) (by omega)]; omega
    have h2 : (S.1 102 0 ≤ 2) ↔ K ≤ 2 := by
      rw [hw.1.1, show (2 : Int32) = nI 2 from rfl, iZ_nI, iZ_nI, iZ_le (by omega) (by omega) (by omega) (by omega)]; omega
    by_cases q3 : K ≤ 2
    · rw [if_pos (h3.mpr (by omega)), if_pos (h2.mpr q3)]; exact ⟨S, rfl, modFr_rf S⟩
    rw [if_neg (fun h => by have := h3.mp h; omega), if_neg (fun h => q3 (h2.mp h))]
    by_cases q4 : S.1 102 1 = 2
    · rw [if_pos q4, if_pos q4]; exact ⟨S, rfl, modFr_rf S⟩
    rw [if_neg q4, if_neg q4]
    obtain ⟨i, i1, rfl⟩ := in_of (K := K) (by omega) q1 (by rw [← hw.1.1]; exact q2)
    rw [hw.1.1, show nI K - 1 = nI (K - 1) from pk_sub (b := 1) (by omega), nI_clamp (by omega)]
    by_cases c : tld a2 a3 (K - 1)
    · rw [(m_rows (by omega) (by omega) S).1 c, zbi_s, if_neg (nI_nm1 (by have := c.2; omega))]
      obtain ⟨S1, e1, k1, a1', x1⟩ := m_asidew S
      obtain ⟨S2, e2, k2, x2⟩ := m_drop hw (by omega) i1 c (K - 1 - i) i zF S1 (by omega) (by omega) (by unfold zF; omega) (by
        rw [k1]; funext j; unfold dW; rw [if_neg (by omega), if_neg (by omega)]) a1'
      rw [e1, zbv_s]
      exact ⟨S2, e2, mod_X (modX_tr x1 x2) k2⟩
    · rw [(m_rows (by omega) (by omega) S).2 c, zbi_s, if_pos rfl]
      refine ⟨S, ?_, modFr_rf S⟩
      unfold mn_v; rw [if_neg c]
