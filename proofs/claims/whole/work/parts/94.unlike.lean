theorem m_unl {w : Nat → Int32} {K n N u R : Nat} (hw : wfW w K n) (hN1 : 2 ≤ N) (hN : N ≤ 8) (hu : u < 2147483648) (hR : R ≤ 2500) : ∀ (m r fu : Nat) (S : zT), r + m = R → m < fu → tkE w N (S.1 102) → asd w S → ∃ S', zfix (fun _ _ _ _ _ _ _ => none) fX8_unlike_45 fu (nI N) (nI u) (nI R) (if mi_w w K then 1 else 0) (nI (cn_r (ulP w K N u) r)) (nI r) S = some (nI (cn_r (ulP w K N u) R), S') ∧ S'.1 102 = w ∧ modX S S' := by
  have aft : ∀ {S S1 : zT} {b : Int32} {r : Nat}, fX8_tries (nI N) (nI u) (nI r) S = some (b, S1) → S1.1 102 = rowR w K N u r → asd w S → tkE w N (S1.1 102) ∧ asd w S1 ∧ modX S S1 := by
    intro S S1 b r e1 k1 ha
    have fr1 := frX8_tries e1
    have ht1 : tkE w N (S1.1 102) := by rw [k1]; exact tkE_row w K N u _
    exact ⟨ht1, ⟨fun j hj => by rw [fr1.cell (by simp) (by omega)]; exact ha.1 j hj, fun j hj => tkE_hi ht1 hj⟩, modX_of fr1 (by simp) (by simp) (by simp)⟩
  intro m
  induction m with
  | zero =>
    intro r fu S h1 h2 ht ha
    obtain ⟨fu, rfl⟩ : ∃ g, fu = g + 1 := ⟨fu - 1, by omega⟩
    have : r = R := by omega
    subst this
    obtain ⟨S', e1, e2, e3⟩ := m_backw ha
    refine ⟨S', ?_, e2, e3⟩
    rw [zfix_s]; unfold fX8_unlike_45
    rw [if_pos (nI_le (by omega) (by omega)), e1, zbv_s]
  | succ m ih =>
    intro r fu S h1 h2 ht ha
    obtain ⟨fu, rfl⟩ : ∃ g, fu = g + 1 := ⟨fu - 1, by omega⟩
    obtain ⟨b, S1, e1, t1, k1, o1⟩ := m_tries (r := r) hw hN1 hN hu (by omega) ht
    obtain ⟨ht1, ha1, x1⟩ := aft e1 k1 ha
    have yes : ∀ S2, tkE w N (S2.1 102) → asd w S2 → modX S S2 → ulP w K N u r → ∃ S', zfix (fun _ _ _ _ _ _ _ => none) fX8_unlike_45 fu (nI N) (nI u) (nI R) (if mi_w w K then 1 else 0) (nI (cn_r (ulP w K N u) r + 1)) (nI (r + 1)) S2 = some (nI (cn_r (ulP w K N u) R), S') ∧ S'.1 102 = w ∧ modX S S' := by
      intro S2 ht2 ha2 x2 hp
      obtain ⟨S', e, k, x⟩ := ih (r + 1) fu S2 (by omega) (by omega) ht2 ha2
      rw [cn_t (p := ulP w K N u) hp] at e
      exact ⟨S', e, k, modX_tr x2 x⟩
    have no : ∀ S2, tkE w N (S2.1 102) → asd w S2 → modX S S2 → ¬ ulP w K N u r → ∃ S', zfix (fun _ _ _ _ _ _ _ => none) fX8_unlike_45 fu (nI N) (nI u) (nI R) (if mi_w w K then 1 else 0) (nI (cn_r (ulP w K N u) r)) (nI (r + 1)) S2 = some (nI (cn_r (ulP w K N u) R), S') ∧ S'.1 102 = w ∧ modX S S' := by
      intro S2 ht2 ha2 x2 hp
      obtain ⟨S', e, k, x⟩ := ih (r + 1) fu S2 (by omega) (by omega) ht2 ha2
      rw [cn_f (p := ulP w K N u) hp] at e
      exact ⟨S', e, k, modX_tr x2 x⟩
    rw [zfix_s]; unfold fX8_unlike_45 fX8_unlike_98 fX8_unlike_103 fX8_unlike_105 fX8_unlike_116
    rw [if_neg (nI_ge (by omega) (by omega)), e1, zbi_s]
    rcases t1 with ⟨rfl, t1⟩ | ⟨rfl, t1⟩
    · rw [if_neg one_ne]
      by_cases cm : mi_w w K = true
      · have l1 := mr_lt (w := w) (K := K) (N := N) (r := r) (by omega) K (by have := hw.1.2.1; omega)
        have l2 := pw_bd (N := N) (K := K) hN hw.1.2.2
        rw [if_pos cm] at yes no ⊢
        rw [if_neg one_ne, m_mirrorIx hw hN1 hN cm k1 o1, zbi_s]
        by_cases c : mr_n w K N r K < r
        · rw [if_neg (nI_ge c (by omega))]
          obtain ⟨b2, S2, e2, t2, k2, -⟩ := m_tries (r := mr_n w K N r K) hw hN1 hN hu (by omega) ht1
          obtain ⟨ht2, ha2, x2⟩ := aft e2 k2 ha1
          rw [e2, zbi_s]
          rcases t2 with ⟨rfl, t2⟩ | ⟨rfl, t2⟩
          · rw [if_neg one_ne, if_pos rfl, nI_1]
            exact no S2 ht2 ha2 (modX_tr x1 x2) (fun g => g.2 ⟨cm, c, t2⟩)
          · rw [if_pos rfl, if_neg one_ne, nI_1, nI_1]
            exact yes S2 ht2 ha2 (modX_tr x1 x2) ⟨t1, fun g => t2 g.2.2⟩
        · rw [if_pos (nI_le (by omega) (by omega)), if_neg one_ne, nI_1, nI_1]
          exact yes S1 ht1 ha1 x1 ⟨t1, fun g => c g.2.1⟩
      · rw [if_neg cm] at yes no ⊢
        rw [if_pos rfl, if_neg one_ne, nI_1, nI_1]
        exact yes S1 ht1 ha1 x1 ⟨t1, fun g => cm g.1⟩
    · rw [if_pos rfl, nI_1]
      exact no S1 ht1 ha1 x1 (fun g => t1 g.1)
noncomputable def ul_v (n u : Int32) (w : Nat → Int32) (K : Nat) : Int32 := @ite _ (tld n u K) (Classical.propDecidable _) (nI (cn_r (ulP w K n.toNatClampNeg u.toNatClampNeg) (n.toNatClampNeg ^ (K - 1)))) (-1)
theorem K_unlike : zK_unlike zInv := by
  intro a1 a2
  refine zO_query (fun w K _ => ul_v a1 a2 w K) (fun S w K n hw hr => ?_) (fun S => rfl) (fun S K n hw hb => ?_)
  · have hK := hw.1.2.2
    have hK2 := hw.1.2.1
    show ∃ S1, fX7_unlike a1 a2 S = some (ul_v a1 a2 w K, S1) ∧ clsFr S S1
    obtain ⟨b, e1, t1⟩ := c_areTold (n := a1) (u := a2) (K := K) (by omega) hK S
    rcases t1 with ⟨rfl, t1⟩ | ⟨rfl, t1⟩
    · obtain ⟨S1, e2, r1⟩ := c_copy hw hr
      have frc := frX6_copyFrom e2
      have r0 : rC w K n S1 1 := rC_cells (fun k a b => frc.cell (by simp; omega) (by omega)) hr
      have e3 := c_mirrored hw r0
      suffices h : ∃ S2, fX7_unlike a1 a2 S = some (ul_v a1 a2 w K, S2) by
        obtain ⟨S2, h⟩ := h
        exact ⟨S2, h, cls_of (frX7_unlike h) (fun k hk => by simp; omega)⟩
      unfold fX7_unlike
      rw [hr.1.1, hw.1.1, e1, zbi_s, if_neg one_ne, e2, zbv_s, e3, zbi_s]
      by_cases cm : mi_w w K = true
      · rw [if_pos cm, if_neg one_ne]
        obtain ⟨N, U, rfl, rfl, h1, h2, h3, h4⟩ := tks_of t1.1
        have pb : N ^ (K - 1) ≤ 2500 := by have := t1.2; rw [nI_clamp (by omega)] at this; exact this
        obtain ⟨S2, e4, c2⟩ := c_start (u := U) hw (tkA_rf w) h1 h2 (by omega) r1
        obtain ⟨S3, e5⟩ := c_unl (u := U) (R := N ^ (K - 1)) hw h1 h2 (by omega) pb cm (N ^ (K - 1)) 0 zF S2 (by omega) (by unfold zF; omega) c2 (fun _ h => by omega)
        refine ⟨S3, ?_⟩
        unfold ul_v fX3_countUnlike
        rw [if_pos t1, e4, zbi_s, nI_clamp (by omega), nI_clamp (by omega)]
        have e6 : zfix (fun _ _ _ _ => none) fX3_countUnlike_13 zF (nI (N ^ (K - 1))) 0 0 S2 = some (nI (cn_r (ulP w K N U) (N ^ (K - 1))), S3) := e5
        rw [e6, zbi_s]
      · rw [if_neg cm, if_pos rfl]
        obtain ⟨S2, e4⟩ := c_countRows (a1 := a1) (a2 := a2) hw (tkA_rf w) r1
        refine ⟨S2, ?_⟩
        rw [e4, zbi_s]
        unfold ul_v mn_v
        rw [if_pos t1, if_pos t1, cn_cg (p := rP w K a1.toNatClampNeg a2.toNatClampNeg) (q := ulP w K a1.toNatClampNeg a2.toNatClampNeg) (fun r => ⟨fun g => ⟨g, fun h => cm h.1⟩, fun g => g.1⟩)]
    · refine ⟨S, ?_, clsFr_rf S⟩
      unfold fX7_unlike ul_v
      rw [hr.1.1, hw.1.1, e1, zbi_s, if_pos rfl, if_neg t1]
  · have hK := hw.1.2.2
    have hK2 := hw.1.2.1
    show ∃ S1, _ = some (ul_v a1 a2 (S.1 102) K, S1) ∧ modFr S S1
    unfold ul_v
    rw [hw.1.1]
    by_cases c : tld a1 a2 K
    · rw [(m_rows (by omega) hK S).1 c, zbi_s, if_neg (nI_nm1 (by have := c.2; omega)), if_pos c]
      obtain ⟨N, U, rfl, rfl, h1, h2, h3, h4⟩ := tks_of c.1
      have pb : N ^ (K - 1) ≤ 2500 := by have := c.2; rw [nI_clamp (by omega)] at this; exact this
      rw [nI_clamp (by omega), nI_clamp (by omega)]
      obtain ⟨S1, e1, k1, a1', x1⟩ := m_asidew S
      have e0 := m_mirrored (S := S1) (K := K) (n := n) (by rw [k1]; exact hw)
      obtain ⟨S2, e2, k2, x2⟩ := m_unl (w := S.1 102) (u := U) (R := N ^ (K - 1)) hw h1 h2 (by omega) pb (N ^ (K - 1)) 0 zF S1 (by omega) (by unfold zF; omega) (by rw [k1]; exact tkE_rf _ _) a1'
      rw [e1, zbv_s, e0, zbi_s, k1]
      exact ⟨S2, e2, mod_X (modX_tr x1 x2) k2⟩
    · rw [(m_rows (by omega) hK S).2 c, zbi_s, if_pos rfl, if_neg c]
      exact ⟨S, rfl, modFr_rf S⟩
