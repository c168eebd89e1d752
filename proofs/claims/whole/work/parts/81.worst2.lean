theorem mv_bd {F : pQ} {a b : Int} (hF : fB F) (h : mgP F a b) : (-24000 ≤ (mg_v F).1 ∧ (mg_v F).1 ≤ 24000) ∧ (1 ≤ (mg_v F).2 ∧ (mg_v F).2 ≤ 160) := by
  obtain ⟨v1, v2⟩ := mg_vx hF h
  have bb := mg_bd hF h
  have hp := (rd_mul (a := a) (b := b) (by omega)).2
  rw [v1, v2]
  have d1 := td_abs a (gdI a b)
  have d2 := td_abs b (gdI a b)
  have l1 := Nat.div_le_self a.natAbs (gdI a b)
  have l2 := Nat.div_le_self b.natAbs (gdI a b)
  unfold rdD at hp
  unfold rdN rdD
  generalize a.natAbs / gdI a b = z1 at d1 l1
  generalize b.natAbs / gdI a b = z2 at d2 l2
  have e2 := d2.1 (by omega)
  refine ⟨?_, by rw [e2] at hp ⊢; clear d1 d2; omega⟩
  by_cases c : 0 ≤ a
  · rw [d1.1 c]; clear d1 d2 e2; omega
  · rw [d1.2 (by omega)]; clear d1 d2 e2; omega
def wsOK (w : Nat → Int32) (K n : Nat) (c : Option Nat) (S : zT) : Prop := S.1 101 17 = oI c ∧ ∀ f, c = some f → f < n ∧ (∃ a b, mgP (F_w w K n f) a b) ∧ S.2 101 15 = jZ (mg_v (F_w w K n f)).1 ∧ S.2 101 16 = jZ (mg_v (F_w w K n f)).2
def wsR (w : Nat → Int32) (K n : Nat) (o : Option Nat) (r : Int32) (S : zT) : Prop := (o = none ∧ r = 0) ∨ ∃ f, o = some f ∧ r = 1 ∧ wsOK w K n (some f) S
theorem m_wst {w : Nat → Int32} {K n : Nat} (hw : wfW w K n) : ∀ (m t fu : Nat) (S : zT) (c : Option Nat), t + m = n → m < fu → S.1 102 = w → wsOK w K n c S → ∃ r S', zfix (fun _ _ => none) fX8_worsts_7 fu (nI t) S = some (r, S') ∧ wsR w K n (wst w K n m t c) r S' := by
  have hn := hw.2.1.2.2
  intro m
  induction m with
  | zero =>
    intro t fu S c h1 h2 hS hl
    obtain ⟨fu, rfl⟩ : ∃ g, fu = g + 1 := ⟨fu - 1, by omega⟩
    rw [zfix_s]; unfold fX8_worsts_7
    rw [if_pos (by rw [hS, hw.2.1.1]; exact nI_le (by omega) (by omega)), hl.1]
    match c, hl with
    | none, hl => rw [if_pos (show oI none = -1 from rfl)]; exact ⟨0, S, rfl, Or.inl ⟨rfl, rfl⟩⟩
    | some f, hl =>
      have := (hl.2 f rfl).1
      rw [if_neg (show ¬ oI (some f) = -1 from nI_nm1 (by omega))]; exact ⟨1, S, rfl, Or.inr ⟨f, rfl, rfl, hl⟩⟩
  | succ m ih =>
    intro t fu S c h1 h2 hS hl
    obtain ⟨fu, rfl⟩ : ∃ g, fu = g + 1 := ⟨fu - 1, by omega⟩
    have ht : t < n := by omega
    rw [zfix_s]; unfold fX8_worsts_7 fX8_worsts_76 fX8_worsts_97
    rw [if_neg (by rw [hS, hw.2.1.1]; exact nI_ge (by omega) (by omega)), show (23 : Int32) + nI t = nI (23 + t) from nI_add 23 t, if_pos (gin (by omega) (by omega)), nI_clamp (by omega), hS]
    by_cases c0 : w (23 + t) = 0
    · rw [if_pos c0, wst_0 c0, nI_1]
      exact ih (t + 1) fu S c (by omega) (by omega) hS hl
    · rw [if_neg c0]
      obtain ⟨r, S1, e1, h⟩ := m_marginAt hS hw ht
      have fr := frX8_marginAt e1
      have s1 : S1.1 102 = w := (fr.cell (by simp) (by omega)).trans hS
      have k17 : S1.1 101 17 = oI c := (fr.slot (by simp) (by simp)).trans hl.1
      have k15 : S1.2 101 15 = S.2 101 15 := (fr 101 15 (by simp) (by simp)).2
      have k16 : S1.2 101 16 = S.2 101 16 := (fr 101 16 (by simp) (by simp)).2
      have hl1 : wsOK w K n c S1 := ⟨k17, fun f h => by rw [k15, k16]; exact hl.2 f h⟩
      rw [e1, zbi_s]
      rcases h with ⟨rfl, h⟩ | ⟨rfl, o1, ⟨a, b, o2⟩, v1, v2⟩
      · rw [if_pos rfl, wst_n c0 h]
        exact ⟨0, S1, rfl, Or.inl ⟨rfl, rfl⟩⟩
      · have bd := mv_bd (Fw_B hw t) o2
        rw [if_neg one_ne]
        obtain ⟨S2, hS2⟩ : ∃ S2, S2 = zsl (zsl (zsi S1 101 17 (nI t)) 101 15 ((zsi S1 101 17 (nI t)).2 101 13)) 101 16 ((zsl (zsi S1 101 17 (nI t)) 101 15 ((zsi S1 101 17 (nI t)).2 101 13)).2 101 14) := ⟨_, rfl⟩
        have s2 : S2.1 102 = w := by rw [hS2]; show (zsi S1 101 17 (nI t)).1 102 = w; rw [zsi_n _ _ (by omega)]; exact s1
        have l2 : wsOK w K n (some t) S2 := ⟨by rw [hS2]; show (zsi S1 101 17 (nI t)).1 101 17 = nI t; rw [zsi_k, pk_us], fun f h => by
          cases h
          exact ⟨ht, ⟨a, b, o2⟩, by rw [hS2]; simp [zsl_app, zsi_app2, v1], by rw [hS2]; simp [zsl_app, zsi_app2, v2]⟩⟩
        have nw : ∀ S3 : zT, S3 = S2 → ∃ r S', zfix (fun _ _ => none) fX8_worsts_7 fu (nI t + 1) S3 = some (r, S') ∧ wsR w K n (wst w K n m (t + 1) (some t)) r S' := by
          rintro S3 rfl
          rw [nI_1]
          exact ih (t + 1) fu S3 (some t) (by omega) (by omega) s2 l2
        rw [k17]
        match c, hl1 with
        | none, hl1 =>
          rw [wst_f c0 o1, if_pos (show oI none = -1 from rfl), zlet_s, zlet_s, zlet_s]
          exact nw _ hS2.symm
        | some f, hl1 =>
          obtain ⟨f1, ⟨a', b', f3⟩, f4, f5⟩ := hl1.2 f rfl
          have bd' := mv_bd (Fw_B hw f) f3
          have m1 := mul_bd bd.1.1 bd.1.2 (show -160 ≤ (mg_v (F_w w K n f)).2 by omega) bd'.2.2
          have m2 := mul_bd bd'.1.1 bd'.1.2 (show -160 ≤ (mg_v (F_w w K n t)).2 by omega) bd.2.2
          rw [if_neg (show ¬ oI (some f) = -1 from nI_nm1 (by omega)), v1, v2, f4, f5, jZ_mul, jZ_mul]
          by_cases cl : lsP (F_w w K n t) (F_w w K n f)
          · rw [if_pos (by rw [cmp_lt0, jZ_lt (by omega) (by omega) (by omega) (by omega)]; exact cl), wst_l c0 o1 cl, zlet_s, zlet_s, zlet_s]
            exact nw _ hS2.symm
          · rw [if_neg (by rw [cmp_lt0, jZ_lt (by omega) (by omega) (by omega) (by omega)]; exact cl), wst_k c0 o1 cl, nI_1]
            exact ih (t + 1) fu S1 (some f) (by omega) (by omega) s1 hl1
theorem m_worsts {w : Nat → Int32} {K n : Nat} {S : zT} (hw : wfW w K n) (hS : S.1 102 = w) : ∃ r S', fX8_worsts S = some (r, S') ∧ wsR w K n (wst w K n n 0 none) r S' := by
  obtain ⟨r, S', e1, e2⟩ := m_wst hw n 0 zF (zsi S 101 17 (-1)) none (by omega) (by have := hw.2.1.2.2; unfold zF; omega) (by rw [zsi_n _ _ (by omega)]; exact hS) ⟨by rw [zsi_k, pk_us]; rfl, fun f h => by cases h⟩
  exact ⟨r, S', e1, e2⟩
theorem c_findLeast {w : Nat → Int32} {K n : Nat} {S : zT} (hw : wfW w K n) (hs : SO w K n S) : ∃ S', fX5_findLeast S = some (oI (wst w K n n 0 none), S') ∧ lstOK w K n (wst w K n n 0 none) S' :=
  c_least hw n 0 zF S none (by omega) (by have := hw.2.1.2.2; unfold zF; omega) hs (fun f h => by cases h)
noncomputable def ws_a (a : Int32) (w : Nat → Int32) (K n : Nat) : Int64 := if a < 0 then -10000 else if 2 < a then -10000 else match wst w K n n 0 none with
  | none => -10000
  | some f => if a = 2 then (nI f).toInt64 else if a = 0 then jZ (mg_v (F_w w K n f)).1 else jZ (mg_v (F_w w K n f)).2
theorem K_worst : zK_worst zInv := by
  intro a
  refine zO_queryL (ws_a a) (fun S w K n hw hr => ?_) (fun S => rfl) (fun S K n hw hb => ?_)
  · have hn := hw.2.1.2.2
    unfold ws_a
    by_cases q1 : a < 0
    · rw [if_pos q1]
      refine ⟨S, ?_, clsFr_rf S⟩
      unfold fX7_worst fX7_isWithin; rw [if_pos q1, zbi_s, if_pos rfl]
    rw [if_neg q1]
    by_cases q2 : 2 < a
    · rw [if_pos q2]
      refine ⟨S, ?_, clsFr_rf S⟩
      unfold fX7_worst fX7_isWithin; rw [if_neg q1, if_pos q2, zbi_s, if_pos rfl]
    rw [if_neg q2]
    obtain ⟨S1, e1, s1⟩ := c_tryOut hw hr
    obtain ⟨S2, e2, o2⟩ := c_findLeast hw (Or.inl s1)
    have fin : ∀ v S3, fX7_worst a S = some (v, S3) → ∃ S1, fX7_worst a S = some (v, S1) ∧ clsFr S S1 := fun v S3 h => ⟨S3, h, cls_of (frX7_worst h) (fun k hk => by simp; omega)⟩
    have st : fX7_worst a S = (if oI (wst w K n n 0 none) = (-1) then some ((-10000), S2) else (if a = 2 then some ((oI (wst w K n n 0 none)).toInt64, S2) else zbl (fX7_partOf 93 a S2) fun r_7 S_6 => some (r_7, S_6))) := by
      unfold fX7_worst fX7_isWithin
      rw [if_neg q1, if_neg q2, zbi_s, if_neg one_ne, e1, zbv_s, e2, zbi_s]
    match hc : wst w K n n 0 none with
    | none =>
      rw [hc, if_pos (show oI none = -1 from rfl)] at st
      exact fin _ _ st
    | some f =>
      obtain ⟨f1, f2, a', b', f3, f4, f5⟩ := o2 f hc
      rw [hc, if_neg (show ¬ oI (some f) = -1 from nI_nm1 (by omega))] at st
      show ∃ S1, fX7_worst a S = some (if a = 2 then (nI f).toInt64 else if a = 0 then jZ (mg_v (F_w w K n f)).1 else jZ (mg_v (F_w w K n f)).2, S1) ∧ clsFr S S1
      by_cases c2 : a = 2
      · rw [if_pos c2] at st ⊢
        exact fin _ _ st
      · rw [if_neg c2] at st ⊢
        obtain ⟨S3, e3⟩ := (c_part (a2 := a) (Fw_B hw f) (Or.inr ⟨f2, a', b', f3, f4, f5⟩)).2 f2
        rw [e3, zbl_s] at st
        exact fin _ _ st
  · unfold ws_a
    by_cases q1 : a < 0
    · rw [if_pos q1, if_pos q1]; exact ⟨S, rfl, modFr_rf S⟩
    rw [if_neg q1, if_neg q1]
    by_cases q2 : 2 < a
    · rw [if_pos q2, if_pos q2]; exact ⟨S, rfl, modFr_rf S⟩
    rw [if_neg q2, if_neg q2]
    obtain ⟨r, S1, e1, h⟩ := m_worsts hw (rfl : S.1 102 = S.1 102)
    have fr := frX8_worsts e1
    have md : modFr S S1 := mod_of fr (by simp) (by simp)
    rw [e1, zbi_s]
    rcases h with ⟨h1, rfl⟩ | ⟨f, h1, rfl, h2, h3⟩
    · rw [h1, if_pos rfl]; exact ⟨S1, rfl, md⟩
    · obtain ⟨-, -, g1, g2⟩ := h3 f rfl
      rw [h1, if_neg one_ne, g1, g2, h2]
      refine ⟨S1, ?_, md⟩
      show (if a = 0 then some (jZ (mg_v (F_w (S.1 102) K n f)).1, S1) else if a = 1 then some (jZ (mg_v (F_w (S.1 102) K n f)).2, S1) else some ((nI f).toInt64, S1)) = some (if a = 2 then (nI f).toInt64 else if a = 0 then jZ (mg_v (F_w (S.1 102) K n f)).1 else jZ (mg_v (F_w (S.1 102) K n f)).2, S1)
      by_cases c0 : a = 0
      · rw [if_pos c0, if_neg (by rw [c0]; decide), if_pos c0]
      · rw [if_neg c0]
        by_cases c1 : a = 1
        · rw [if_pos c1, if_neg (by rw [c1]; decide), if_neg c0]
        · rw [if_neg c1]
          have : a = 2 := by
            rw [Int32.lt_iff_toInt_lt] at q1 q2
            have z0 : a.toInt ≠ 0 := fun h => c0 (by rw [iZ_of a, h]; rfl)
            have z1 : a.toInt ≠ 1 := fun h => c1 (by rw [iZ_of a, h]; rfl)
            have t0 : (0 : Int32).toInt = 0 := by decide
            have t2 : (2 : Int32).toInt = 2 := by decide
            rw [iZ_of a, show a.toInt = 2 by omega]; rfl
          rw [if_pos this]
