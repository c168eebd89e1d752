noncomputable def mg_a (a1 a2 : Int32) (w : Nat → Int32) (K n : Nat) : Int64 := if a1 < 0 then -10000 else if w 6 ≤ a1 then -10000 else if a2 < 0 then -10000 else if 1 < a2 then -10000 else @ite _ (hasM (F_w w K n a1.toNatClampNeg)) (Classical.propDecidable _) (if a2 = 0 then jZ (mg_v (F_w w K n a1.toNatClampNeg)).1 else jZ (mg_v (F_w w K n a1.toNatClampNeg)).2) (-10000)
theorem c_part {F : pQ} {k : Nat} {S : zT} {a2 : Int32} (hF : fB F) (h : mOut F S k) : (¬ hasM F → fX7_partOf k a2 S = some (-10000, S)) ∧ (hasM F → ∃ S', fX7_partOf k a2 S = some (if a2 = 0 then jZ (mg_v F).1 else jZ (mg_v F).2, S')) := by
  unfold fX7_partOf fX1_isNone
  rcases h with ⟨h1, h2⟩ | ⟨h1, a, b, h2, h3, h4⟩
  · refine ⟨fun _ => ?_, fun h => absurd h h1⟩
    rw [h2, if_pos ((cmp_eq0 _ _).mpr rfl), zbi_s, if_neg one_ne]
  · refine ⟨fun h => absurd h1 h, fun _ => ?_⟩
    have bd := mg_bd hF h2
    obtain ⟨v1, v2⟩ := mg_vx hF h2
    obtain ⟨S', e1, e2, e3⟩ := c_shorten (by omega) (by omega) h3 h4
    rw [h4, if_neg (by rw [cmp_eq0, show (0 : Int64) = jZ 0 from rfl, jZ_eq (by omega) (by omega) (by omega) (by omega)]; omega), zbi_s, if_pos rfl, e1, zbv_s, v1, v2]
    refine ⟨S', ?_⟩
    by_cases c : a2 = 0
    · rw [if_pos c, if_pos c, e2]
    · rw [if_neg c, if_neg c, e3]
theorem K_margin : zK_margin zInv := by
  intro a1 a2
  refine zO_queryL (mg_a a1 a2) (fun S w K n hw hr => ?_) (fun S => rfl) (fun S K n hw hb => ?_)
  · have hn := hw.2.1.2.2
    unfold mg_a
    by_cases q3 : a1 < 0
    · rw [if_pos q3]
      refine ⟨S, ?_, clsFr_rf S⟩
      unfold fX7_margin; rw [c_hasTick hr, zbi_s, if_pos q3, if_pos rfl]
    rw [if_neg q3]
    by_cases q4 : w 6 ≤ a1
    · rw [if_pos q4]
      refine ⟨S, ?_, clsFr_rf S⟩
      unfold fX7_margin; rw [c_hasTick hr, zbi_s, if_neg q3, if_pos q4, if_pos rfl]
    rw [if_neg q4]
    by_cases q5 : a2 < 0
    · rw [if_pos q5]
      refine ⟨S, ?_, clsFr_rf S⟩
      unfold fX7_margin fX7_isWithin; rw [c_hasTick hr, zbi_s, if_neg q3, if_neg q4, if_neg one_ne, if_pos q5, zbi_s, if_pos rfl]
    rw [if_neg q5]
    by_cases q6 : 1 < a2
    · rw [if_pos q6]
      refine ⟨S, ?_, clsFr_rf S⟩
      unfold fX7_margin fX7_isWithin; rw [c_hasTick hr, zbi_s, if_neg q3, if_neg q4, if_neg one_ne, if_neg q5, if_pos q6, zbi_s, if_pos rfl]
    rw [if_neg q6]
    obtain ⟨t, t1, rfl⟩ := in_of (K := n) (by omega) q3 (by rw [← hw.2.1.1]; exact q4)
    obtain ⟨S1, e1, s1⟩ := c_tryOut hw hr
    obtain ⟨S2, e2, o2⟩ := c_marginAt hw t1 (Or.inl s1)
    obtain ⟨p1, p2⟩ := c_part (a2 := a2) (Fw_B hw t) o2
    have body : ∀ v S3, fX7_partOf 92 a2 S2 = some (v, S3) → fX7_margin (nI t) a2 S = some (v, S3) := by
      intro v S3 h
      unfold fX7_margin fX7_isWithin
      rw [c_hasTick hr, zbi_s, if_neg q3, if_neg q4, if_neg one_ne, if_neg q5, if_neg q6, zbi_s, if_neg one_ne, e1, zbv_s, e2, zbv_s, h, zbl_s]
    rw [nI_clamp (by omega)]
    by_cases c : hasM (F_w w K n t)
    · rw [if_pos c]
      obtain ⟨S3, e3⟩ := p2 c
      have := body _ _ e3
      exact ⟨S3, this, cls_of (frX7_margin this) (fun k hk => by simp; omega)⟩
    · rw [if_neg c]
      have := body _ _ (p1 c)
      exact ⟨S2, this, cls_of (frX7_margin this) (fun k hk => by simp; omega)⟩
  · have hn := hw.2.1.2.2
    unfold mg_a
    rw [m_isTick, zbi_s]
    by_cases q3 : a1 < 0
    · rw [if_pos q3, if_pos q3, if_pos rfl]; exact ⟨S, rfl, modFr_rf S⟩
    rw [if_neg q3, if_neg q3]
    by_cases q4 : S.1 102 6 ≤ a1
    · rw [if_pos q4, if_pos q4, if_pos rfl]; exact ⟨S, rfl, modFr_rf S⟩
    rw [if_neg q4, if_neg q4, if_neg one_ne]
    by_cases q5 : a2 < 0
    · rw [if_pos q5, if_pos q5]; exact ⟨S, rfl, modFr_rf S⟩
    rw [if_neg q5, if_neg q5]
    by_cases q6 : 1 < a2
    · rw [if_pos q6, if_pos q6]; exact ⟨S, rfl, modFr_rf S⟩
    rw [if_neg q6, if_neg q6]
    obtain ⟨t, t1, rfl⟩ := in_of (K := n) (by omega) q3 (by rw [← hw.2.1.1]; exact q4)
    obtain ⟨r, S1, e1, h⟩ := m_marginAt rfl hw t1
    have fr := frX8_marginAt e1
    rw [e1, zbi_s, nI_clamp (by omega)]
    rcases h with ⟨rfl, h⟩ | ⟨rfl, h, -, v1, v2⟩
    · rw [if_pos rfl, if_neg h]; exact ⟨S1, rfl, mod_of fr (by simp) (by simp)⟩
    · rw [if_neg one_ne, if_pos h]
      refine ⟨S1, ?_, mod_of fr (by simp) (by simp)⟩
      by_cases c : a2 = 0
      · rw [if_pos c, if_pos c, v1]
      · rw [if_neg c, if_neg c, v2]
/-! the least margin of all ticks with a foot down -/
def lsP (F G : pQ) : Prop := (mg_v F).1 * (mg_v G).2 < (mg_v G).1 * (mg_v F).2
theorem rd_mul {a b : Int} (hb : 0 < b) : rdN a b * b = a * rdD a b ∧ 0 < rdD a b := by
  have hg : 0 < gdI a b := Nat.gcd_pos_of_pos_right _ (by omega)
  obtain ⟨x, hx⟩ : (gdI a b : Int) ∣ a := Int.ofNat_dvd_left.mpr (Nat.gcd_dvd_left _ _)
  obtain ⟨y, hy⟩ : (gdI a b : Int) ∣ b := Int.ofNat_dvd_left.mpr (Nat.gcd_dvd_right _ _)
  unfold rdN rdD
  generalize gdI a b = g at *
  have e1 : a.tdiv (g : Int) = x := by rw [hx, Int.mul_tdiv_cancel_left _ (by omega)]
  have e2 : b.tdiv (g : Int) = y := by rw [hy, Int.mul_tdiv_cancel_left _ (by omega)]
  rw [e1, e2]
  refine ⟨by rw [hx, hy]; grind, ?_⟩
  rcases Int.lt_or_le 0 y with h | h
  · exact h
  · have := Int.mul_nonpos_of_nonneg_of_nonpos (show (0 : Int) ≤ g by omega) h
    omega
theorem ls_iff {F G : pQ} {a b a' b' : Int} (hF : fB F) (hG : fB G) (h : mgP F a b) (h' : mgP G a' b') : a * b' < a' * b ↔ lsP F G := by
  obtain ⟨v1, v2⟩ := mg_vx hF h
  obtain ⟨u1, u2⟩ := mg_vx hG h'
  have bb := mg_bd hF h
  have bb' := mg_bd hG h'
  obtain ⟨m1, m2⟩ := rd_mul (a := a) (b := b) (by omega)
  obtain ⟨k1, k2⟩ := rd_mul (a := a') (b := b') (by omega)
  unfold lsP
  rw [v1, v2, u1, u2]
  generalize rdN a b = x at *
  generalize rdD a b = y at *
  generalize rdN a' b' = x' at *
  generalize rdD a' b' = y' at *
  have p1 : 0 < y * y' := Int.mul_pos m2 k2
  have p2 : 0 < b * b' := Int.mul_pos (by omega) (by omega)
  have e1 : a * b' * (y * y') = x * y' * (b * b') := by grind
  have e2 : a' * b * (y * y') = x' * y * (b * b') := by grind
  constructor
  · intro h
    have := Int.mul_lt_mul_of_pos_right h p1
    rw [e1, e2] at this
    exact Int.lt_of_mul_lt_mul_right this (by omega)
  · intro h
    have := Int.mul_lt_mul_of_pos_right h p2
    rw [← e1, ← e2] at this
    exact Int.lt_of_mul_lt_mul_right this (by omega)
noncomputable def wst_r (ne mk : Nat → Prop) (ls : Nat → Nat → Prop) : Nat → Nat → Option Nat → Option Nat
  | 0, _, c => c
  | m + 1, t, c => @ite _ (ne t) (Classical.propDecidable _) (@ite _ (mk t) (Classical.propDecidable _) (match c with
    | none => wst_r ne mk ls m (t + 1) (some t)
    | some f => @ite _ (ls t f) (Classical.propDecidable _) (wst_r ne mk ls m (t + 1) (some t)) (wst_r ne mk ls m (t + 1) (some f))) none) (wst_r ne mk ls m (t + 1) c)
noncomputable def wst (w : Nat → Int32) (K n m t : Nat) (c : Option Nat) : Option Nat := wst_r (fun t => w (23 + t) ≠ 0) (fun t => hasM (F_w w K n t)) (fun t f => lsP (F_w w K n t) (F_w w K n f)) m t c
theorem wst_0 {w : Nat → Int32} {K n m t : Nat} {c : Option Nat} (h : w (23 + t) = 0) : wst w K n (m + 1) t c = wst w K n m (t + 1) c := by
  unfold wst; cases c <;> rw [wst_r, if_neg (fun g => g h)]
theorem wst_n {w : Nat → Int32} {K n m t : Nat} {c : Option Nat} (h : w (23 + t) ≠ 0) (h2 : ¬ hasM (F_w w K n t)) : wst w K n (m + 1) t c = none := by
  unfold wst; cases c <;> rw [wst_r, if_pos h, if_neg h2]
theorem wst_f {w : Nat → Int32} {K n m t : Nat} (h : w (23 + t) ≠ 0) (h2 : hasM (F_w w K n t)) : wst w K n (m + 1) t none = wst w K n m (t + 1) (some t) := by
  unfold wst; rw [wst_r, if_pos h, if_pos h2]
theorem wst_l {w : Nat → Int32} {K n m t f : Nat} (h : w (23 + t) ≠ 0) (h2 : hasM (F_w w K n t)) (h3 : lsP (F_w w K n t) (F_w w K n f)) : wst w K n (m + 1) t (some f) = wst w K n m (t + 1) (some t) := by
  unfold wst; rw [wst_r, if_pos h, if_pos h2]; exact if_pos h3
theorem wst_k {w : Nat → Int32} {K n m t f : Nat} (h : w (23 + t) ≠ 0) (h2 : hasM (F_w w K n t)) (h3 : ¬ lsP (F_w w K n t) (F_w w K n f)) : wst w K n (m + 1) t (some f) = wst w K n m (t + 1) (some f) := by
  unfold wst; rw [wst_r, if_pos h, if_pos h2]; exact if_neg h3
def oI (c : Option Nat) : Int32 := match c with
  | none => -1
  | some f => nI f
def lstOK (w : Nat → Int32) (K n : Nat) (c : Option Nat) (S : zT) : Prop := ∀ f, c = some f → f < n ∧ hasM (F_w w K n f) ∧ ∃ a b, mgP (F_w w K n f) a b ∧ S.2 93 0 = jZ a ∧ S.2 93 1 = jZ b
theorem c_least {w : Nat → Int32} {K n : Nat} (hw : wfW w K n) : ∀ (m t fu : Nat) (S : zT) (c : Option Nat), t + m = n → m < fu → SO w K n S → lstOK w K n c S → ∃ S', zfix (fun _ _ _ => none) fX5_findLeast_4 fu (oI c) (nI t) S = some (oI (wst w K n m t c), S') ∧ lstOK w K n (wst w K n m t c) S' := by
  have hn := hw.2.1.2.2
  intro m
  induction m with
  | zero =>
    intro t fu S c h1 h2 hs hl
    obtain ⟨fu, rfl⟩ : ∃ g, fu = g + 1 := ⟨fu - 1, by omega⟩
    refine ⟨S, ?_, hl⟩
    rw [zfix_s]; unfold fX5_findLeast_4
    rw [if_pos (by rw [(SO_rC hs).1.2.2.2.2.2.2, hw.2.1.1]; exact nI_le (by omega) (by omega))]
    rfl
  | succ m ih =>
    intro t fu S c h1 h2 hs hl
    obtain ⟨fu, rfl⟩ : ∃ g, fu = g + 1 := ⟨fu - 1, by omega⟩
    have ht : t < n := by omega
    rw [zfix_s]; unfold fX5_findLeast_4 fX5_findLeast_60 fX5_findLeast_70
    rw [if_neg (by rw [(SO_rC hs).1.2.2.2.2.2.2, hw.2.1.1]; exact nI_ge (by omega) (by omega)), at_in (by omega) (by omega), zbi_s, show S.1 (68 + 5 + 1) t = w (23 + t) from (SO_rC hs).2.2.2 t ht]
    by_cases c0 : w (23 + t) = 0
    · rw [if_pos c0, wst_0 c0, nI_1]
      exact ih (t + 1) fu S c (by omega) (by omega) hs hl
    · rw [if_neg c0]
      obtain ⟨S1, e1, o1⟩ := c_marginAt hw ht hs
      have fr := frX5_marginAt e1
      have hs1 : SO w K n S1 := SO_fr (fun k a b => fr.cell (by simp; omega) (by omega)) hs
      have k93 : S1.2 93 = S.2 93 := fr.cell2 (by simp) (by omega)
      rw [e1, zbv_s]
      unfold fX1_isNone
      rcases o1 with ⟨o1, o2⟩ | ⟨o1, a, b, o2, o3, o4⟩
      · rw [o2, if_pos ((cmp_eq0 _ _).mpr rfl), zbi_s, if_neg one_ne, wst_n c0 o1]
        exact ⟨S1, rfl, fun f h => by cases h⟩
      · have bd := mg_bd (Fw_B hw t) o2
        rw [o4, if_neg (by rw [cmp_eq0, show (0 : Int64) = jZ 0 from rfl, jZ_eq (by omega) (by omega) (by omega) (by omega)]; omega), zbi_s, if_pos rfl]
        obtain ⟨S2, hS2⟩ : ∃ S2, S2 = zsl (zsl S1 93 0 (S1.2 92 0)) 93 1 ((zsl S1 93 0 (S1.2 92 0)).2 92 1) := ⟨_, rfl⟩
        have cp : fX1_copyFrom 93 92 S1 = some S2 := by rw [hS2]; rfl
        have hs2 : SO w K n S2 := SO_fr (fun k a b => by rw [hS2]; rfl) hs1
        have l2 : lstOK w K n (some t) S2 := fun f h => by
          cases h
          exact ⟨ht, o1, a, b, o2, by rw [hS2]; simp [zsl_app, o3], by rw [hS2]; simp [zsl_app, o4]⟩
        have l1 : lstOK w K n c S1 := fun f h => by rw [k93]; exact hl f h
        match c, hl, l1 with
        | none, hl, l1 =>
          rw [wst_f c0 o1, if_pos (show oI none = -1 from rfl), cp, zbv_s, nI_1]
          exact ih (t + 1) fu S2 (some t) (by omega) (by omega) hs2 l2
        | some f, hl, l1 =>
          obtain ⟨f1, f2, a', b', f3, f4, f5⟩ := l1 f rfl
          have bd' := mg_bd (Fw_B hw f) f3
          have m1 := mul_bd bd.1.1 bd.1.2 (show -160 ≤ b' by omega) bd'.2.2
          have m2 := mul_bd bd'.1.1 bd'.1.2 (show -160 ≤ b by omega) bd.2.2
          have li := ls_iff (Fw_B hw t) (Fw_B hw f) o2 f3
          rw [if_neg (show ¬ oI (some f) = -1 from nI_nm1 (by omega))]
          unfold fX1_isLessThan
          rw [o3, o4, f4, f5, jZ_mul, jZ_mul]
          by_cases cl : a * b' < a' * b
          · rw [if_neg (by rw [lg_cmp_ge, jZ_le (by omega) (by omega) (by omega) (by omega)]; omega), zbi_s, if_neg one_ne, wst_l c0 o1 (li.mp cl), cp, zbv_s, nI_1]
            exact ih (t + 1) fu S2 (some t) (by omega) (by omega) hs2 l2
          · rw [if_pos (by rw [lg_cmp_ge, jZ_le (by omega) (by omega) (by omega) (by omega)]; omega), zbi_s, if_pos rfl, wst_k c0 o1 (fun h => cl (li.mpr h)), nI_1]
            exact ih (t + 1) fu S1 (some f) (by omega) (by omega) hs1 (fun f h => by rw [k93]; exact hl f h)
