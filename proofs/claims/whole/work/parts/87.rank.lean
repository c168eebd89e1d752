theorem c_gaitOf {w w' : Nat → Int32} {K n N : Nat} {S : zT} (hN : N ≤ 16) (h6 : w 6 = nI N) (h6' : w' 6 = nI N) (hr : rC w K N S 1) (hr' : rC w' K N S 68) : ∃ r, fX6_hasGaitOf 68 1 S = some (r, S) ∧ tf r (∀ t, t < N → w' (23 + t) = w (23 + t)) := by
  have key : ∀ (m t fu : Nat), t + m = N → m < fu → (∀ t', t' < t → w' (23 + t') = w (23 + t')) → ∃ r, zfix (fun _ _ => none) (fX6_hasGaitOf_2 68 1) fu (nI t) S = some (r, S) ∧ tf r (∀ t, t < N → w' (23 + t) = w (23 + t)) := by
    intro m
    induction m with
    | zero =>
      intro t fu h1 h2 h
      obtain ⟨fu, rfl⟩ : ∃ g, fu = g + 1 := ⟨fu - 1, by omega⟩
      refine ⟨1, ?_, tf_t (fun t' ht => h t' (by omega))⟩
      rw [zfix_s]; unfold fX6_hasGaitOf_2
      rw [hr'.1.2.2.2.2.2.2, hr.1.2.2.2.2.2.2, h6, h6', if_pos (nI_le (by omega) (by omega)), if_pos rfl]
    | succ m ih =>
      intro t fu h1 h2 h
      obtain ⟨fu, rfl⟩ : ∃ g, fu = g + 1 := ⟨fu - 1, by omega⟩
      rw [zfix_s]; unfold fX6_hasGaitOf_2
      rw [hr'.1.2.2.2.2.2.2, h6', if_neg (nI_ge (by omega) (by omega)), at_in (by omega) (by omega), zbi_s, at_in (by omega) (by omega), zbi_s, show S.1 (68 + 5 + 1) t = w' (23 + t) from hr'.2.2.2 t (by omega), show S.1 (1 + 5 + 1) t = w (23 + t) from hr.2.2.2 t (by omega)]
      by_cases c : w' (23 + t) = w (23 + t)
      · rw [if_pos c, nI_1]
        exact ih (t + 1) fu (by omega) (by omega) (fun t' ht => by
          by_cases e : t' = t
          · subst e; exact c
          · exact h t' (by omega))
      · rw [if_neg c]; exact ⟨0, rfl, tf_f (fun g => c (g t (by omega)))⟩
  exact key N 0 zF (by omega) (by unfold zF; omega) (fun _ h => by omega)
theorem m_isAside (S : zT) : ∃ r, fX8_isAside S = some (r, S) ∧ tf r (∀ m, 6 ≤ m → m < 48 → (m = 6 ∨ 23 ≤ m) → S.1 102 m = S.1 106 m) := by
  have key : ∀ (d m fu : Nat), m + d = 48 → 6 ≤ m → d < fu → (∀ m', 6 ≤ m' → m' < m → (m' = 6 ∨ 23 ≤ m') → S.1 102 m' = S.1 106 m') → ∃ r, zfix (fun _ _ => none) fX8_isAside_3 fu (nI m) S = some (r, S) ∧ tf r (∀ m, 6 ≤ m → m < 48 → (m = 6 ∨ 23 ≤ m) → S.1 102 m = S.1 106 m) := by
    intro d
    induction d with
    | zero =>
      intro m fu h1 h6 h2 h
      obtain ⟨fu, rfl⟩ : ∃ g, fu = g + 1 := ⟨fu - 1, by omega⟩
      have : m = 48 := by omega
      subst this
      refine ⟨1, ?_, tf_t (fun m' a b c => h m' a (by omega) c)⟩
      rw [zfix_s]; unfold fX8_isAside_3
      rw [if_pos (by decide)]
    | succ d ih =>
      intro m fu h1 h6 h2 h
      obtain ⟨fu, rfl⟩ : ∃ g, fu = g + 1 := ⟨fu - 1, by omega⟩
      have h48 : ¬ (48 : Int32) ≤ nI m := show ¬ nI 48 ≤ nI m from nI_ge (by omega) (by omega)
      have e6 : (nI m = 6) ↔ m = 6 := by
        rw [show (6 : Int32) = iZ 6 from rfl, iZ_nI, iZ_eq (by omega) (by omega) (by omega) (by omega)]; omega
      have e23 : (nI m < 23) ↔ m < 23 := by
        rw [show (23 : Int32) = iZ 23 from rfl, iZ_nI, iZ_lt (by omega) (by omega) (by omega) (by omega)]; omega
      have gi := gin (m := m) (N := 48) (by omega) (by omega)
      have look : (m = 6 ∨ 23 ≤ m) → ∃ r, fX8_isAside_21 (fX8_isAside_38 (zfix (fun _ _ => none) fX8_isAside_3 fu)) (nI m) S = some (r, S) ∧ tf r (∀ m, 6 ≤ m → m < 48 → (m = 6 ∨ 23 ≤ m) → S.1 102 m = S.1 106 m) := by
        intro hm
        unfold fX8_isAside_21 fX8_isAside_38
        rw [if_pos gi, if_pos gi, nI_clamp (by omega)]
        by_cases c : S.1 102 m = S.1 106 m
        · rw [if_pos c, nI_1]
          exact ih (m + 1) fu (by omega) (by omega) (by omega) (fun m' a b g => by
            by_cases e : m' = m
            · subst e; exact c
            · exact h m' a (by omega) g)
        · rw [if_neg c]; exact ⟨0, rfl, tf_f (fun g => c (g m h6 (by omega) hm))⟩
      have q : zfix (fun _ _ => none) fX8_isAside_3 (fu + 1) (nI m) S = if m = 6 ∨ 23 ≤ m then fX8_isAside_21 (fX8_isAside_38 (zfix (fun _ _ => none) fX8_isAside_3 fu)) (nI m) S else zfix (fun _ _ => none) fX8_isAside_3 fu (nI (m + 1)) S := by
        rw [zfix_s]
        refine (show fX8_isAside_3 (zfix (fun _ _ => none) fX8_isAside_3 fu) (nI m) S = (if 48 ≤ nI m then some (1, S) else (if nI m = 6 then (fX8_isAside_21 (fX8_isAside_38 (zfix (fun _ _ => none) fX8_isAside_3 fu))) (nI m) S else (if nI m < 23 then (fX8_isAside_38 (zfix (fun _ _ => none) fX8_isAside_3 fu)) (nI m) S else (fX8_isAside_21 (fX8_isAside_38 (zfix (fun _ _ => none) fX8_isAside_3 fu))) (nI m) S))) from rfl).trans ?_
        rw [if_neg h48]
        by_cases c6 : m = 6
        · rw [if_pos (e6.mpr c6), if_pos (Or.inl c6)]
        · rw [if_neg (fun g => c6 (e6.mp g))]
          by_cases c23 : m < 23
          · rw [if_pos (e23.mpr c23), if_neg (by omega)]
            unfold fX8_isAside_38; rw [nI_1]
          · rw [if_neg (fun g => c23 (e23.mp g)), if_pos (Or.inr (by omega))]
      rw [q]
      by_cases c : m = 6 ∨ 23 ≤ m
      · rw [if_pos c]; exact look c
      · rw [if_neg c]
        exact ih (m + 1) fu (by omega) (by omega) (by omega) (fun m' a b g => by
          by_cases e : m' = m
          · subst e; exact absurd g c
          · exact h m' a (by omega) g)
  exact key 42 6 zF (by omega) (by omega) (by unfold zF; omega) (fun _ a b _ => by omega)
def eqR (w : Nat → Int32) (K N u r : Nat) : Prop := rowR w K N u r = w
theorem eq_row {w : Nat → Int32} {K n N u r : Nat} (hw : wfW w K n) (hN : N ≤ 16) : eqR w K N u r ↔ (w 6 = nI N ∧ ∀ t, t < N → rowR w K N u r (23 + t) = w (23 + t)) := by
  constructor
  · intro h
    refine ⟨?_, fun t _ => by rw [h]⟩
    have := congrFun h 6
    rw [← this]; unfold rowR rowO tk_w; rw [if_pos rfl]
  · rintro ⟨h1, h2⟩
    have en : n = N := by
      have := hw.2.1.1
      rw [h1, iZ_nI, iZ_nI, iZ_eq (by omega) (by omega) (by omega) (by have := hw.2.1.2.2; omega)] at this
      omega
    subst en
    funext m
    by_cases c6 : m = 6
    · subst c6; rw [h1]; unfold rowR rowO tk_w; rw [if_pos rfl]
    · by_cases c : 23 ≤ m ∧ m < 39
      · by_cases ct : m - 23 < n
        · have := h2 (m - 23) ct
          rw [show 23 + (m - 23) = m by omega] at this; exact this
        · have z := hw.2.2.2.2.2.2.2.2.2 (m - 23) (by omega) (by omega)
          rw [show 23 + (m - 23) = m by omega] at z
          rw [z]; unfold rowR rowO tk_w; rw [if_neg c6, if_pos c, if_neg ct]
      · unfold rowR rowO tk_w; rw [if_neg c6, if_neg c]
noncomputable def rk_r (w : Nat → Int32) (K N u : Nat) : Nat → Nat → Int32
  | 0, _ => -1
  | m + 1, r => @ite _ (rP w K N u r ∧ eqR w K N u r) (Classical.propDecidable _) (nI (cn_r (rP w K N u) r)) (rk_r w K N u m (r + 1))
theorem rk_t {w : Nat → Int32} {K N u m r : Nat} (h : rP w K N u r ∧ eqR w K N u r) : rk_r w K N u (m + 1) r = nI (cn_r (rP w K N u) r) := by
  rw [show rk_r w K N u (m + 1) r = @ite _ (rP w K N u r ∧ eqR w K N u r) (Classical.propDecidable _) (nI (cn_r (rP w K N u) r)) (rk_r w K N u m (r + 1)) from rfl, if_pos h]
theorem rk_f {w : Nat → Int32} {K N u m r : Nat} (h : ¬ (rP w K N u r ∧ eqR w K N u r)) : rk_r w K N u (m + 1) r = rk_r w K N u m (r + 1) := by
  rw [show rk_r w K N u (m + 1) r = @ite _ (rP w K N u r ∧ eqR w K N u r) (Classical.propDecidable _) (nI (cn_r (rP w K N u) r)) (rk_r w K N u m (r + 1)) from rfl, if_neg h]
theorem rk_none {w : Nat → Int32} {K N u : Nat} (h : ∀ r, ¬ (rP w K N u r ∧ eqR w K N u r)) : ∀ m r, rk_r w K N u m r = -1
  | 0, _ => rfl
  | m + 1, r => by rw [rk_f (h r)]; exact rk_none h m (r + 1)
theorem c_rank {w : Nat → Int32} {K n u R : Nat} (hw : wfW w K n) (hN1 : 2 ≤ n) (hN : n ≤ 8) (hu : u < 2147483648) (hR : R ≤ 2500) : ∀ (m r fu : Nat) (S : zT), r + m = R → m < fu → CR w K n u r S → rC w K n S 1 → ∃ S', zfix (fun _ _ _ _ => none) fX7_rank_55 fu (nI R) (nI (cn_r (rP w K n u) r)) (nI r) S = some (rk_r w K n u m r, S') := by
  intro m
  induction m with
  | zero =>
    intro r fu S h1 h2 hc hr
    obtain ⟨fu, rfl⟩ : ∃ g, fu = g + 1 := ⟨fu - 1, by omega⟩
    refine ⟨S, ?_⟩
    rw [zfix_s]; unfold fX7_rank_55
    rw [if_pos (nI_le (by omega) (by omega))]
    rfl
  | succ m ih =>
    intro r fu S h1 h2 hc hr
    obtain ⟨fu, rfl⟩ : ∃ g, fu = g + 1 := ⟨fu - 1, by omega⟩
    obtain ⟨b, S1, e1, t1, c1⟩ := c_rowSteady hw hN1 hN hc
    have fr1 := frX5_isSteady e1
    have r1 : rC w K n S1 1 := rC_cells (fun k a b => fr1.cell (by simp; omega) (by omega)) hr
    obtain ⟨g, e2, t2⟩ := c_gaitOf (w := w) (w' := rowR w K n u r) (n := n) (K := K) (by omega) hw.2.1.1 (by unfold rowR rowO tk_w; rw [if_pos rfl]) r1 (SO_rC c1.2.2)
    have t2' : tf g (eqR w K n u r) := tf_cg ⟨fun h => (eq_row hw (by omega)).mpr ⟨hw.2.1.1, h⟩, fun h => ((eq_row hw (by omega)).mp h).2⟩ t2
    obtain ⟨S3, e3, c3⟩ := c_goOn hw hN1 hN hu c1
    have fr3 := frX3_goOn e3
    obtain ⟨S4, e4⟩ := ih (r + 1) fu S3 (by omega) (by omega) c3 (rC_cells (fun k a b => fr3.cell (by simp; omega) (by omega)) r1)
    rw [zfix_s]; unfold fX7_rank_55 fX7_rank_104
    rw [if_neg (nI_ge (by omega) (by omega)), e1, zbi_s, e2, zbi_s]
    rcases t2' with ⟨rfl, t2'⟩ | ⟨rfl, t2'⟩
    · rw [if_neg one_ne]
      rcases t1 with ⟨rfl, t1⟩ | ⟨rfl, t1⟩
      · rw [if_neg one_ne, rk_t ⟨t1, t2'⟩]; exact ⟨S1, rfl⟩
      · rw [if_pos rfl, rk_none (fun r' h => t1 ?_)]
        · exact ⟨S1, rfl⟩
        · have h1 := h.1
          unfold rP at h1
          rw [h.2] at h1
          rw [t2']; exact h1
    · rw [if_pos rfl, rk_f (fun h => t2' h.2)]
      refine ⟨S4, ?_⟩
      rcases t1 with ⟨rfl, t1⟩ | ⟨rfl, t1⟩
      · rw [if_neg one_ne, e3, zbv_s, nI_1, nI_1]
        rw [cn_t (p := rP w K n u) t1] at e4; exact e4
      · rw [if_pos rfl, e3, zbv_s, nI_1]
        rw [cn_f (p := rP w K n u) t1] at e4; exact e4
theorem m_rank {w : Nat → Int32} {K n N u R : Nat} (hw : wfW w K n) (hN1 : 2 ≤ N) (hN : N ≤ 8) (hu : u < 2147483648) (hR : R ≤ 2500) : ∀ (m r fu : Nat) (S : zT), r + m = R → m < fu → tkE w N (S.1 102) → asd w S → ∃ S', zfix (fun _ _ _ _ _ _ _ => none) fX8_rank_42 fu (nI N) (nI u) (nI R) (nI (cn_r (rP w K N u) r)) (-1) (nI r) S = some (rk_r w K N u m r, S') ∧ S'.1 102 = w ∧ modX S S' := by
  have fin : ∀ (v : Int32) (S : zT), asd w S → ∃ S', fX8_rank_91 v S = some (v, S') ∧ S'.1 102 = w ∧ modX S S' := by
    intro v S ha
    obtain ⟨S', e1, e2, e3⟩ := m_backw ha
    exact ⟨S', by unfold fX8_rank_91; rw [e1, zbv_s], e2, e3⟩
  intro m
  induction m with
  | zero =>
    intro r fu S h1 h2 ht ha
    obtain ⟨fu, rfl⟩ : ∃ g, fu = g + 1 := ⟨fu - 1, by omega⟩
    obtain ⟨S', e1, e2⟩ := fin (-1) S ha
    refine ⟨S', ?_, e2⟩
    rw [zfix_s]; unfold fX8_rank_42
    rw [if_pos (nI_le (by omega) (by omega))]
    exact e1
  | succ m ih =>
    intro r fu S h1 h2 ht ha
    obtain ⟨fu, rfl⟩ : ∃ g, fu = g + 1 := ⟨fu - 1, by omega⟩
    obtain ⟨b, S1, e1, t1, k1, -⟩ := m_tries (r := r) hw hN1 hN hu (by omega) ht
    have fr1 := frX8_tries e1
    have ht1 : tkE w N (S1.1 102) := by rw [k1]; exact tkE_row w K N u _
    have ha1 : asd w S1 := ⟨fun j hj => by rw [fr1.cell (by simp) (by omega)]; exact ha.1 j hj, fun j hj => tkE_hi ht1 hj⟩
    have x1 : modX S S1 := modX_of fr1 (by simp) (by simp) (by simp)
    obtain ⟨S2, e2, k2, x2⟩ := ih (r + 1) fu S1 (by omega) (by omega) ht1 ha1
    rw [zfix_s]; unfold fX8_rank_42 fX8_rank_79 fX8_rank_85
    rw [if_neg (nI_ge (by omega) (by omega)), if_pos rfl, e1, zbi_s]
    rcases t1 with ⟨rfl, t1⟩ | ⟨rfl, t1⟩
    · obtain ⟨g, e3, t3⟩ := m_isAside S1
      have t3' : tf g (eqR w K N u r) := by
        refine tf_cg ?_ t3
        rw [k1]
        constructor
        · intro h
          refine (eq_row hw (by omega)).mpr ⟨?_, fun t ht => ?_⟩
          · have := h 6 (by omega) (by omega) (Or.inl rfl)
            rw [ha1.1 6 (by omega)] at this
            rw [← this]; unfold rowR rowO tk_w; rw [if_pos rfl]
          · rw [h (23 + t) (by omega) (by omega) (Or.inr (by omega)), ha1.1 _ (by omega)]
        · intro h m' a b c
          rw [ha1.1 m' b, show rowR w K N u r = w from h]
      rw [if_neg one_ne, e3, zbi_s]
      rcases t3' with ⟨rfl, t3'⟩ | ⟨rfl, t3'⟩
      · rw [if_neg one_ne, rk_t ⟨t1, t3'⟩]
        obtain ⟨S4, f1, f2, f3⟩ := fin (nI (cn_r (rP w K N u) r)) S1 ha1
        refine ⟨S4, ?_, f2, modX_tr x1 f3⟩
        obtain ⟨fu, rfl⟩ : ∃ g, fu = g + 1 := ⟨fu - 1, by omega⟩
        rw [zfix_s]
        have hcl := cn_le (rP w K N u) r
        by_cases cr : R ≤ r + 1
        · rw [nI_1, nI_1, if_pos (nI_le (by omega) (by omega))]; exact f1
        · rw [nI_1, nI_1, if_neg (nI_ge (by omega) (by omega)), if_neg (nI_nm1 (by omega))]; exact f1
      · rw [if_pos rfl, rk_f (fun h => t3' h.2)]
        refine ⟨S2, ?_, k2, modX_tr x1 x2⟩
        rw [nI_1, nI_1]
        rw [cn_t (p := rP w K N u) t1] at e2; exact e2
    · rw [if_pos rfl, rk_f (fun h => t1 h.1)]
      refine ⟨S2, ?_, k2, modX_tr x1 x2⟩
      rw [nI_1]
      rw [cn_f (p := rP w K N u) t1] at e2; exact e2
noncomputable def rk_v (n u : Int32) (w : Nat → Int32) (K : Nat) : Int32 := @ite _ (tld n u K) (Classical.propDecidable _) (rk_r w K n.toNatClampNeg u.toNatClampNeg (n.toNatClampNeg ^ (K - 1)) 0) (-1)
theorem K_rank : zK_rank zInv := by
  intro a1 a2
  refine zO_query (fun w K _ => rk_v a1 a2 w K) (fun S w K n hw hr => ?_) (fun S => rfl) (fun S K n hw hb => ?_)
  · have hK := hw.1.2.2
    have hK2 := hw.1.2.1
    show ∃ S1, fX7_rank a1 a2 S = some (rk_v a1 a2 w K, S1) ∧ clsFr S S1
    unfold rk_v
    obtain ⟨b, e1, t1⟩ := c_areTold (n := a1) (u := a2) (K := K) (by omega) hK S
    rcases t1 with ⟨rfl, t1⟩ | ⟨rfl, t1⟩
    · rw [if_pos t1]
      obtain ⟨N, U, rfl, rfl, h1, h2, h3, h4⟩ := tks_of t1.1
      have pb : N ^ (K - 1) ≤ 2500 := by have := t1.2; rw [nI_clamp (by omega)] at this; exact this
      rw [nI_clamp (by omega), nI_clamp (by omega)]
      by_cases c : w 6 = nI N
      · have en : n = N := by
          have := hw.2.1.1
          rw [c, iZ_nI, iZ_nI, iZ_eq (by omega) (by omega) (by omega) (by have := hw.2.1.2.2; omega)] at this
          omega
        subst en
        obtain ⟨S1, e2, r1⟩ := c_copy hw hr
        have frc := frX6_copyFrom e2
        obtain ⟨S2, e3, c2⟩ := c_start (u := U) hw (tkA_rf w) h1 h2 (by omega) r1
        have frs := frX3_start e3
        obtain ⟨S3, e4⟩ := c_rank (u := U) (R := n ^ (K - 1)) hw h1 h2 (by omega) pb (n ^ (K - 1)) 0 zF S2 (by omega) (by unfold zF; omega) c2 (rC_cells (fun k a b => (frs.cell (by simp; omega) (by omega)).trans (frc.cell (by simp; omega) (by omega))) hr)
        have e5 : fX7_rank (nI n) (nI U) S = some (rk_r w K n U (n ^ (K - 1)) 0, S3) := by
          unfold fX7_rank
          rw [hr.1.1, hw.1.1, e1, zbi_s, if_neg one_ne, hr.1.2.2.2.2.2.2, if_pos c, e2, zbv_s, e3, zbi_s]
          exact e4
        exact ⟨S3, e5, cls_of (frX7_rank e5) (fun k hk => by simp; omega)⟩
      · rw [rk_none (fun r h => c ((eq_row hw (by omega)).mp h.2).1)]
        refine ⟨S, ?_, clsFr_rf S⟩
        unfold fX7_rank
        rw [hr.1.1, hw.1.1, e1, zbi_s, if_neg one_ne, hr.1.2.2.2.2.2.2, if_neg c]
    · rw [if_neg t1]
      refine ⟨S, ?_, clsFr_rf S⟩
      unfold fX7_rank
      rw [hr.1.1, hw.1.1, e1, zbi_s, if_pos rfl]
  · have hK := hw.1.2.2
    have hK2 := hw.1.2.1
    show ∃ S1, _ = some (rk_v a1 a2 (S.1 102) K, S1) ∧ modFr S S1
    unfold rk_v
    rw [hw.1.1]
    by_cases c : tld a1 a2 K
    · rw [(m_rows (by omega) hK S).1 c, zbi_s, if_neg (nI_nm1 (by have := c.2; omega)), if_pos c]
      obtain ⟨N, U, rfl, rfl, h1, h2, h3, h4⟩ := tks_of c.1
      have pb : N ^ (K - 1) ≤ 2500 := by have := c.2; rw [nI_clamp (by omega)] at this; exact this
      rw [nI_clamp (by omega), nI_clamp (by omega)]
      obtain ⟨S1, e1, k1, a1', x1⟩ := m_asidew S
      obtain ⟨S2, e2, k2, x2⟩ := m_rank (w := S.1 102) (u := U) (R := N ^ (K - 1)) hw h1 h2 (by omega) pb (N ^ (K - 1)) 0 zF S1 (by omega) (by unfold zF; omega) (by rw [k1]; exact tkE_rf _ _) a1'
      rw [e1, zbv_s]
      exact ⟨S2, e2, mod_X (modX_tr x1 x2) k2⟩
    · rw [(m_rows (by omega) hK S).2 c, zbi_s, if_pos rfl, if_neg c]
      exact ⟨S, rfl, modFr_rf S⟩
