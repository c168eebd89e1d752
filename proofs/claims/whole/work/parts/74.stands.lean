def m102 (S S' : zT) : Prop := S'.1 102 = S.1 102
theorem m_feetAt {w : Nat → Int32} {K n t : Nat} {S : zT} (hS : S.1 102 = w) (hw : wfW w K n) (ht : t < n) : ∃ S' c, fX8_feetAt (nI t) S = some S' ∧ c ≤ 8 ∧ mS (F_w w K n t) (w 4).toInt (w 5).toInt c S' := by
  have hK := hw.1.2.2
  have hn1 := hw.2.1.2.1
  have hn := hw.2.1.2.2
  have hmx := hw.2.2.2.2.2.1
  have hmy := hw.2.2.2.2.2.2.1
  have key : ∀ (m i fu c : Nat) (S : zT), i + m = K → m < fu → c ≤ i → S.1 102 = w → mS (Fq (fun i => D_w w i t) (Xw w) (Yw w n t) i) (w 4).toInt (w 5).toInt c S → ∃ S' c, zfix (fun _ _ _ => none) fX8_feetAt_7 fu (nI t) (nI i) S = some S' ∧ c ≤ 8 ∧ mS (F_w w K n t) (w 4).toInt (w 5).toInt c S' := by
    intro m
    induction m with
    | zero =>
      intro i fu c S h1 h2 hc hS hi
      obtain ⟨fu, rfl⟩ : ∃ g, fu = g + 1 := ⟨fu - 1, by omega⟩
      have : i = K := by omega
      subst this
      refine ⟨S, c, ?_, by omega, hi⟩
      rw [zfix_s]; unfold fX8_feetAt_7
      rw [if_pos (by rw [hS, hw.1.1]; exact nI_le (by omega) (by omega))]
    | succ m ih =>
      intro i fu c S h1 h2 hc hS hi
      obtain ⟨fu, rfl⟩ : ∃ g, fu = g + 1 := ⟨fu - 1, by omega⟩
      have hiK : i < K := by omega
      have bd := XY_bd (t := t) hw hiK
      rw [zfix_s]; unfold fX8_feetAt_7 fX8_feetAt_47
      rw [if_neg (by rw [hS, hw.1.1]; exact nI_ge (by omega) (by omega)), m_isDown (by omega), zbi_s, hS]
      by_cases c1 : D_w w i t = true
      · obtain ⟨S1, e1, e2⟩ := m_stand hmx hmy bd.1 bd.2.1 (show c < 8 by omega) hi
        have fr1 := frX8_stand e1
        have ex : 2 * w (7 + i) = iZ (2 * (Xw w i + (w 4).toInt)) := by
          unfold Xw
          rw [show (w (7 + i)).toInt - (w 4).toInt + (w 4).toInt = (w (7 + i)).toInt by omega, ← iZ_mul, ← iZ_of]; rfl
        have ey : fy_w w n i t = iZ (Yw w n t i + 2 * (w 5).toInt) := by
          unfold Yw
          rw [show (fy_w w n i t).toInt - 2 * (w 5).toInt + 2 * (w 5).toInt = (fy_w w n i t).toInt by omega, ← iZ_of]
        obtain ⟨S', c', f1, f2⟩ := ih (i + 1) fu (c + 1) S1 (by omega) (by omega) (by omega) ((fr1.cell (by simp) (by omega)).trans hS) (by rw [Fq_t (δ := fun i => D_w w i t) (i := i) c1]; exact e2)
        refine ⟨S', c', ?_, f2⟩
        have hfy := m_footY (S := S) (i := i) (t := t) (n := n) (by rw [hS]; exact hw.2.1.1) hn1 hn (by omega) ht (by rw [hS]; exact c1)
        rw [hS] at hfy
        rw [if_pos c1, if_neg one_ne, show (7 : Int32) + nI i = nI (7 + i) from nI_add 7 i, if_pos (gin (by omega) (by omega)), hfy, zbi_s, nI_clamp (by omega), ex, ey, e1, zbv_s, nI_1]
        exact f1
      · obtain ⟨S', c', f1, f2⟩ := ih (i + 1) fu c S (by omega) (by omega) (by omega) hS (by rw [Fq_f (δ := fun i => D_w w i t) (i := i) c1]; exact hi)
        refine ⟨S', c', ?_, f2⟩
        rw [if_neg c1, if_pos rfl, nI_1]
        exact f1
  obtain ⟨S', c, e1, e2⟩ := key K 0 zF 0 (zsi S 101 5 0) (by omega) (by unfold zF; omega) (by omega) (by rw [zsi_n _ _ (by omega)]; exact hS) (by
    rw [Fq_0]
    exact ⟨by rw [zsi_k, pk_us]; rfl, fun j hj => by omega, fun _ _ h => h.elim⟩)
  exact ⟨S', c, e1, e2⟩
theorem tI_ii (w : Int32) : 2 * w = iZ (2 * w.toInt) := by rw [← iZ_mul, ← iZ_of]; rfl
theorem m_stF {F : pQ} {w : Nat → Int32} {K n c : Nat} {S : zT} (hS : S.1 102 = w) (hw : wfW w K n) (hF : fB F) (hc : c ≤ 8) (h : mS F (w 4).toInt (w 5).toInt c S) : ∃ r S', (zbv (fX8_spans (2 * (S.1 102 4)) S) fun S_2 => zbi (fX8_isWithin (2 * (S_2.1 102 5)) S_2) fun r_4 S_3 => if r_4 = 0 ∨ r_4 = 1 then some (r_4, S_3) else none) = some (r, S') ∧ tf r (SP F) := by
  obtain ⟨S2, Pl, e1, e2, e3, e4⟩ := m_holds hw.2.2.2.2.2.1 hw.2.2.2.2.2.2.1 hF hc h
  obtain ⟨r, f1, f2⟩ := m_within hF hw.2.2.2.2.2.2.1 e3 e4 e2
  have fr := frX8_spans e1
  refine ⟨r, S2, ?_, f2⟩
  rw [hS, tI_ii (w 4), e1, zbv_s, show S2.1 102 = w from (fr.cell (by simp) (by omega)).trans hS, tI_ii (w 5), f1, zbi_s, if_pos (tf_01 f2)]
theorem pr_0 : ∀ K, K < 9 → prB K 0 = true := by decide +kernel
theorem m_standsAt {w : Nat → Int32} {K n t : Nat} {S : zT} (hS : S.1 102 = w) (hw : wfW w K n) (ht : t < n) : ∃ r S', fX8_standsAt (nI t) S = some (r, S') ∧ tf r (stP w K n t) := by
  have hK := hw.1.2.2
  have hn1 := hw.2.1.2.1
  have hn := hw.2.1.2.2
  obtain ⟨s, s1, s2⟩ := hw.2.2.2.2.2.2.2.2.1 t ht
  have hs256 := pow_le256 hK
  have body : ¬ (w 1 = 2 ∧ prB K (w (23 + t)).toNatClampNeg = false) → ∃ r S', fX8_standsAt_30 (nI t) (w (23 + t)) S = some (r, S') ∧ tf r (stP w K n t) := by
    intro hp
    unfold fX8_standsAt_30 stP
    by_cases c0 : w (23 + t) = 0
    · rw [if_pos c0, hS]
      by_cases c1 : w 1 = 1
      · obtain ⟨r, e1, e2⟩ := m_hop hS hw.2.1.1 hn1 hn ht c0
        rw [if_pos c1, e1, zbi_s]
        rcases e2 with ⟨rfl, e2⟩ | ⟨rfl, e2⟩
        · rw [if_neg one_ne]; exact ⟨1, S, rfl, tf_t (Or.inl ⟨c0, c1, e2⟩)⟩
        · rw [if_pos rfl]; exact ⟨0, S, rfl, tf_f (by rintro (⟨-, -, h⟩ | ⟨h, -⟩); exact e2 h; exact h c0)⟩
      · rw [if_neg c1]
        exact ⟨0, S, rfl, tf_f (by rintro (⟨-, h, -⟩ | ⟨h, -⟩); exact c1 h; exact h c0)⟩
    · rw [if_neg c0]
      obtain ⟨S1, c, e1, e2, e3⟩ := m_feetAt hS hw ht
      have fr := frX8_feetAt e1
      obtain ⟨r, S2, f1, f2⟩ := m_stF ((fr.cell (by simp) (by omega)).trans hS) hw (Fw_B hw t) e2 e3
      rw [e1, zbv_s]
      refine ⟨r, S2, f1, tf_cg ⟨fun h => Or.inr ⟨c0, hp, h⟩, ?_⟩ f2⟩
      rintro (⟨h, -⟩ | ⟨-, -, h⟩)
      · exact absurd h c0
      · exact h
  unfold fX8_standsAt
  rw [show (23 : Int32) + nI t = nI (23 + t) from nI_add 23 t, if_pos (gin (by omega) (by omega)), nI_clamp (by omega), hS]
  by_cases c1 : w 1 = 2
  · rw [if_pos c1]
    have e := m_pairs (S := S) hK (show s < 256 by omega) (by rw [hS]; exact hw.1.1)
    rw [← s2] at e
    rw [e, zbi_s]
    by_cases c2 : prB K s = true
    · rw [if_pos c2, if_neg one_ne]
      exact body (fun h => by rw [s2, nI_clamp (by omega), c2] at h; cases h.2)
    · rw [if_neg c2, if_pos rfl]
      refine ⟨0, S, rfl, tf_f ?_⟩
      rintro (⟨-, h, -⟩ | ⟨-, h, -⟩)
      · rw [c1] at h; exact absurd h (by decide)
      · exact h ⟨c1, by rw [s2, nI_clamp (by omega)]; simpa using c2⟩
  · rw [if_neg c1]
    exact body (fun h => c1 h.1)
noncomputable def st_v (a : Int32) (w : Nat → Int32) (K n : Nat) : Int32 := if a < 0 then -1 else if w 6 ≤ a then -1 else bP (stP w K n a.toNatClampNeg)
theorem mod_of {S S' : zT} {M : List Nat} (h : zFr [104, 105] M S S') (h3 : 3 ∉ M) (h4 : 4 ∉ M) : modFr S S' := ⟨h.cell (by simp) (by omega), h.slot (by simp) h4, h.slot (by simp) h3, h.cell (by simp) (by omega), fun k hk => h.cell (by simp; omega) (by omega)⟩
theorem K_stands : zK_stands zInv := by
  intro a
  refine zO_query (st_v a) (fun S w K n hw hr => ?_) (fun S => rfl) (fun S K n hw hb => ?_)
  · have hn := hw.2.1.2.2
    unfold fX7_stands st_v
    rw [c_hasTick hr, zbi_s]
    by_cases q3 : a < 0
    · rw [if_pos q3, if_pos q3, if_pos rfl]; exact ⟨S, rfl, clsFr_rf S⟩
    rw [if_neg q3, if_neg q3]
    by_cases q4 : w 6 ≤ a
    · rw [if_pos q4, if_pos q4, if_pos rfl]; exact ⟨S, rfl, clsFr_rf S⟩
    rw [if_neg q4, if_neg q4, if_neg one_ne]
    obtain ⟨t, t1, rfl⟩ := in_of (K := n) (by omega) q3 (by rw [← hw.2.1.1]; exact q4)
    obtain ⟨S1, e1, s1⟩ := c_tryOut hw hr
    have fr1 := frX7_tryOut e1
    obtain ⟨r, S2, e2, t2⟩ := c_steadyAt hw t1 (Or.inl s1)
    have fr2 := frX5_isSteadyAt e2
    rw [e1, zbv_s, e2, zbi_s, nI_clamp (by omega)]
    have hc : clsFr S S2 := fun k j hk => by
      rw [show S2.1 k j = S1.1 k j from cls_of fr2 (fun k hk => by simp; omega) k j hk]
      exact cls_of fr1 (fun k hk => by simp; omega) k j hk
    refine ⟨S2, ?_, hc⟩
    rw [← tf_bP t2]
    rcases tf_01 t2 with rfl | rfl
    · rfl
    · rfl
  · have hn := hw.2.1.2.2
    unfold st_v
    rw [m_isTick, zbi_s]
    by_cases q3 : a < 0
    · rw [if_pos q3, if_pos q3, if_pos rfl]; exact ⟨S, rfl, modFr_rf S⟩
    rw [if_neg q3, if_neg q3]
    by_cases q4 : S.1 102 6 ≤ a
    · rw [if_pos q4, if_pos q4, if_pos rfl]; exact ⟨S, rfl, modFr_rf S⟩
    rw [if_neg q4, if_neg q4, if_neg one_ne]
    obtain ⟨t, t1, rfl⟩ := in_of (K := n) (by omega) q3 (by rw [← hw.2.1.1]; exact q4)
    obtain ⟨r, S2, e2, t2⟩ := m_standsAt rfl hw t1
    have fr2 := frX8_standsAt e2
    rw [e2, zbi_s, nI_clamp (by omega)]
    refine ⟨S2, ?_, mod_of fr2 (by simp) (by simp)⟩
    rw [← tf_bP t2]
    rcases tf_01 t2 with rfl | rfl
    · rfl
    · rfl
