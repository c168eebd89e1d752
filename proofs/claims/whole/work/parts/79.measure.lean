def two_P (p q p2 q2 : Int) : pQ := adP (adP (fun _ _ => False) (-p) (2 * q)) p2 (2 * q2)
def mgP (F : pQ) (a b : Int) : Prop := ∃ p q p2 q2, loOf (mkP F) p q ∧ hiOf (mkP F) p2 q2 ∧ loOf (two_P p q p2 q2) a b
theorem mg_bd {F : pQ} {a b : Int} (hF : fB F) (h : mgP F a b) : (-24000 ≤ a ∧ a ≤ 24000) ∧ (1 ≤ b ∧ b ≤ 160) := by
  obtain ⟨p, q, p2, q2, h1, h2, h3, -⟩ := h
  have b1 := mk_B hF _ _ h1.1
  have b2 := mk_B hF _ _ h2.1
  rcases h3 with (h | ⟨rfl, rfl⟩) | ⟨rfl, rfl⟩
  · exact h.elim
  · omega
  · omega
theorem mg_le {F : pQ} {a b a' b' : Int} (hF : fB F) (h : mgP F a b) (h' : mgP F a' b') : a * b' ≤ a' * b := by
  have bb := mg_bd hF h
  have bb' := mg_bd hF h'
  obtain ⟨p, q, p2, q2, h1, h2, h3⟩ := h
  obtain ⟨p', q', p2', q2', h1', h2', h3'⟩ := h'
  have b1 := mk_B hF _ _ h1.1
  have b2 := mk_B hF _ _ h2.1
  have b1' := mk_B hF _ _ h1'.1
  have b2' := mk_B hF _ _ h2'.1
  have e1 := h1'.2 _ _ h1.1
  have e2 := h2'.2 _ _ h2.1
  rcases h3'.1 with (h | ⟨rfl, rfl⟩) | ⟨rfl, rfl⟩
  · exact h.elim
  · have := h3.2 (-p) (2 * q) (Or.inl (Or.inr ⟨rfl, rfl⟩))
    refine fr_tr (p := -p) (q := 2 * q) (by omega) (by omega) (by omega) this ?_
    rw [Int.neg_mul, Int.neg_mul, Int.mul_left_comm, Int.mul_left_comm p']
    omega
  · have := h3.2 p2 (2 * q2) (Or.inr ⟨rfl, rfl⟩)
    refine fr_tr (p := p2) (q := 2 * q2) (by omega) (by omega) (by omega) this ?_
    rw [Int.mul_left_comm, Int.mul_left_comm a']
    omega
theorem mg_eq {F : pQ} {a b a' b' : Int} (hF : fB F) (h : mgP F a b) (h' : mgP F a' b') : a * b' = a' * b := Int.le_antisymm (mg_le hF h h') (mg_le hF h' h)
def rdP (F : pQ) (z : Int × Int) : Prop := ∃ a b, mgP F a b ∧ z.1 = rdN a b ∧ z.2 = rdD a b
noncomputable def mg_v (F : pQ) : Int × Int := @dite _ (∃ z, rdP F z) (Classical.propDecidable _) (fun h => Classical.choose h) (fun _ => (0, 1))
theorem mg_vx {F : pQ} {a b : Int} (hF : fB F) (h : mgP F a b) : (mg_v F).1 = rdN a b ∧ (mg_v F).2 = rdD a b := by
  have hx : ∃ z, rdP F z := ⟨(rdN a b, rdD a b), a, b, h, rfl, rfl⟩
  unfold mg_v
  rw [dif_pos hx]
  obtain ⟨a', b', h', e1, e2⟩ := Classical.choose_spec hx
  have := rd_eq (by have := mg_bd hF h'; omega) (by have := mg_bd hF h; omega) (mg_eq hF h' h)
  rw [e1, e2]; exact this
def hasM (F : pQ) : Prop := ∃ p q, mkP F p q
def mOut (F : pQ) (S : zT) (k : Nat) : Prop := (¬ hasM F ∧ S.2 k 1 = 0) ∨ (hasM F ∧ ∃ a b, mgP F a b ∧ S.2 k 0 = jZ a ∧ S.2 k 1 = jZ b)
theorem c_mend {F : pQ} {S : zT} (hF : fB F) (h5 : rLo (mkP F) S 90) (h6 : rHi (mkP F) S 91) : ∃ S', (zbv (fX1_drop 92 S) fun S_9 => zbi (fX1_isNone 90 S_9) fun r_11 S_10 => (if r_11 = 0 then zbv (fX1_lowerTo 92 (-(S_10.2 90 0)) (2 * (S_10.2 90 1)) S_10) fun S_12 => zbv (fX1_lowerTo 92 (S_12.2 91 0) (2 * (S_12.2 91 1)) S_12) fun S_13 => some S_13 else some S_10)) = some S' ∧ mOut F S' 92 := by
  obtain ⟨S1, hS1⟩ : ∃ S1, S1 = zsl (zsl S 92 0 0) 92 1 0 := ⟨_, rfl⟩
  have d : fX1_drop 92 S = some S1 := by rw [hS1]; rfl
  have k90 : S1.2 90 = S.2 90 := by rw [hS1]; funext j; simp [zsl_app]
  have k91 : S1.2 91 = S.2 91 := by rw [hS1]; funext j; simp [zsl_app]
  have k92 : S1.2 92 1 = 0 := by rw [hS1]; simp [zsl_app]
  rw [d, zbv_s]
  unfold fX1_isNone
  rw [k90]
  rcases h5 with ⟨g1, g2⟩ | ⟨p, q, g1, g2, g3⟩
  · rw [g2, if_pos ((cmp_eq0 _ _).mpr rfl), zbi_s, if_neg one_ne]
    exact ⟨S1, rfl, Or.inl ⟨fun ⟨p, q, h⟩ => g1 p q h, k92⟩⟩
  · obtain ⟨bp, bq⟩ := mk_B hF p q g1.1
    rcases h6 with ⟨i1, -⟩ | ⟨p2, q2, i1, i2, i3⟩
    · exact absurd g1.1 (i1 p q)
    obtain ⟨bp2, bq2⟩ := mk_B hF p2 q2 i1.1
    rw [g3, if_neg (by rw [cmp_eq0, show (0 : Int64) = jZ 0 from rfl, jZ_eq (by omega) (by omega) (by omega) (by omega)]; omega), zbi_s, if_pos rfl, k90, g2, g3, jZ_neg, show (2 : Int64) = jZ 2 from rfl, jZ_mul]
    obtain ⟨S2, e1, r1⟩ := c_lowerTo (B := 24000) (C := 160) (Pl := fun _ _ => False) (b := 92) (p1 := -p) (q1 := 2 * q) (S := S1) (by omega) (by omega) (by omega) (fun _ _ h => h.elim) (by omega) (by omega) (by omega) (by omega) (Or.inl ⟨fun _ _ h => h, k92⟩)
    have fr := frX1_lowerTo e1
    rw [e1, zbv_s, show S2.2 91 = S.2 91 from (fr.cell2 (by simp) (by omega)).trans k91, i2, i3, jZ_mul]
    obtain ⟨S3, e2, r2⟩ := c_lowerTo (B := 24000) (C := 160) (b := 92) (p1 := p2) (q1 := 2 * q2) (S := S2) (by omega) (by omega) (by omega) (mkB_ad (Pl := fun _ _ => False) (fun _ _ h => h.elim) (p1 := -p) (q1 := 2 * q) (by omega) (by omega)) (by omega) (by omega) (by omega) (by omega) r1
    rw [e2, zbv_s]
    refine ⟨S3, rfl, ?_⟩
    rcases r2 with ⟨n1, -⟩ | ⟨a, b, n1, n2, n3⟩
    · exact absurd (Or.inr ⟨rfl, rfl⟩) (n1 p2 (2 * q2))
    · exact Or.inr ⟨⟨p, q, g1.1⟩, a, b, ⟨p, q, p2, q2, g1, i1, n1⟩, n2, n3⟩
def smC (S S1 : zT) : Prop := ∀ k, 81 ≤ k → k < 90 → S1.1 k = S.1 k
def wd_i (S : zT) (i j : Nat) : Int := (S.1 87 j).toInt - (S.1 83 i).toInt
theorem c_me12 {F : pQ} {a b i : Nat} {S : zT} (hF : fB F) (ha : a ≤ 8) (hb : b ≤ 8) (hi : i < a) (h2 : S.1 81 5 = nI b) (h3 : sdOK F (· < 0) a (S.1 83) (S.1 85)) (h4 : sdOK F (0 < ·) b (S.1 87) (S.1 89)) (k : Int32 → zT → Option zT) : ∀ (m j fu : Nat) (S1 : zT) (Pl : pQ), j + m = b → m < fu → smC S S1 → rLo Pl S1 90 → rHi Pl S1 91 → (∀ p q, Pl p q → mkP F p q) → ∃ S' Pl', zfix (fun _ _ _ => none) (fX4_measure_12 k) fu (nI i) (nI j) S1 = k (nI (i + 1)) S' ∧ smC S S' ∧ rLo Pl' S' 90 ∧ rHi Pl' S' 91 ∧ (∀ p q, Pl p q → Pl' p q) ∧ (∀ p q, Pl' p q → mkP F p q) ∧ ∀ j', j ≤ j' → j' < b → Pl' (hg_i S i j') (wd_i S i j') := by
  intro m
  induction m with
  | zero =>
    intro j fu S1 Pl e1 e2 hs hl hh hp
    obtain ⟨fu, rfl⟩ : ∃ g, fu = g + 1 := ⟨fu - 1, by omega⟩
    refine ⟨S1, Pl, ?_, hs, hl, hh, fun _ _ h => h, hp, fun j' _ _ => by omega⟩
    rw [zfix_s]; unfold fX4_measure_12
    rw [if_pos (by rw [hs 81 (by omega) (by omega), h2]; exact nI_le (by omega) (by omega)), nI_1]
  | succ m ih =>
    intro j fu S1 Pl e1 e2 hs hl hh hp
    obtain ⟨fu, rfl⟩ : ∃ g, fu = g + 1 := ⟨fu - 1, by omega⟩
    have hj : j < b := by omega
    have ehg : hg_i S1 i j = hg_i S i j := by unfold hg_i; rw [hs 85 (by omega) (by omega), hs 87 (by omega) (by omega), hs 89 (by omega) (by omega), hs 83 (by omega) (by omega)]
    have l1 := h3.1 i hi
    have l2 := h4.1 j hj
    have l3 := hF _ _ l1.1
    have l4 := hF _ _ l2.1
    have l5 : (S.1 83 i).toInt < 0 := l1.2
    have l6 : 0 < (S.1 87 j).toInt := l2.2
    have mk : mkP F (hg_i S i j) (wd_i S i j) := Or.inr ⟨_, _, _, _, l1.1, l2.1, l1.2, l2.2, rfl, rfl⟩
    have bd := mk_B hF _ _ mk
    have ew : S1.1 (86 + 1) j - S1.1 (82 + 1) i = iZ (wd_i S i j) := by
      unfold wd_i
      rw [← iZ_sub, ← iZ_of, ← iZ_of, show S1.1 (86 + 1) = S.1 87 from hs 87 (by omega) (by omega), show S1.1 (82 + 1) = S.1 83 from hs 83 (by omega) (by omega)]
    obtain ⟨S2, f1, r1⟩ := c_lowerTo (B := 24000) (C := 80) (by omega) (by omega) (by omega) (mkB_sub (mk_B hF) hp) bd.1 bd.2 (by omega) (by omega) hl
    have fr1 := frX1_lowerTo f1
    obtain ⟨S3, f2, r2⟩ := c_raiseTo (B := 24000) (C := 80) (S := S2) (b := 91) (by omega) (by omega) (by omega) (mkB_sub (mk_B hF) hp) bd.1 bd.2 (by omega) (by omega) (rHi_cg (fun _ _ => Iff.rfl) (fr1.cell2 (by simp) (by omega)) hh)
    have fr2 := frX1_raiseTo f2
    obtain ⟨S', Pl', d1, d2, d3, d4, d5, d6, d7⟩ := ih (j + 1) fu S3 (adP Pl (hg_i S i j) (wd_i S i j)) (by omega) (by omega) (fun k k1 k2 => ((fr2.cell (by simp; omega) (by omega)).trans (fr1.cell (by simp; omega) (by omega))).trans (hs k k1 k2)) (rLo_cg (fun _ _ => Iff.rfl) (fr2.cell2 (by simp) (by omega)) r1) r2 (by
      rintro p q (h | ⟨rfl, rfl⟩)
      · exact hp p q h
      · exact mk)
    refine ⟨S', Pl', ?_, d2, d3, d4, fun p q h => d5 p q (Or.inl h), d6, fun j' g1 g2 => ?_⟩
    · rw [zfix_s]; unfold fX4_measure_12
      rw [if_neg (by rw [hs 81 (by omega) (by omega), h2]; exact nI_ge (by omega) (by omega)), c_height (by omega) (by omega), zbi_s, at_in (by omega) (by omega), zbi_s, at_in (by omega) (by omega), zbi_s, ew, ehg, iZ_long (by omega) (by omega), iZ_long (by omega) (by omega), f1, zbv_s, f2, zbv_s, nI_1]
      exact d1
    · by_cases c : j' = j
      · subst c; exact d5 _ _ (Or.inr ⟨rfl, rfl⟩)
      · exact d7 j' (by omega) g2
theorem c_measure {F : pQ} {c : Nat} {S : zT} (hF : fB F) (hc : c ≤ 8) (h : cS F c S) : ∃ S', fX4_measure S = some S' ∧ mOut F S' 92 := by
  obtain ⟨a, b, h0, h1, h2, h3, h4, h5, h6⟩ := h
  have key : ∀ (m i fu : Nat) (S1 : zT) (Pl : pQ), i + m = a → m < fu → smC S S1 → rLo Pl S1 90 → rHi Pl S1 91 → (∀ p q, lnP F p q → Pl p q) → (∀ p q, Pl p q → mkP F p q) → (∀ i' j', i' < i → j' < b → Pl (hg_i S i' j') (wd_i S i' j')) → ∃ S', zfix (fun _ _ => none) fX4_measure_2 fu (nI i) S1 = some S' ∧ mOut F S' 92 := by
    intro m
    induction m with
    | zero =>
      intro i fu S1 Pl e1 e2 hs hl hh hp1 hp2 hp3
      obtain ⟨fu, rfl⟩ : ∃ g, fu = g + 1 := ⟨fu - 1, by omega⟩
      have hall : ∀ p q, Pl p q ↔ mkP F p q := by
        intro p q
        refine ⟨hp2 p q, ?_⟩
        rintro (g | ⟨Xa, Ya, Xb, Yb, g1, g2, g3, g4, rfl, rfl⟩)
        · exact hp1 p q g
        · obtain ⟨i', i1, i2, i3⟩ := h3.2 _ _ g1 g3
          obtain ⟨j', j1, j2, j3⟩ := h4.2 _ _ g2 g4
          have := hp3 i' j' (by omega) j1
          unfold hg_i wd_i at this
          rw [i2, i3, j2, j3] at this
          exact this
      obtain ⟨S', f1, f2⟩ := c_mend hF (rLo_cg hall rfl hl) (rHi_cg hall rfl hh)
      refine ⟨S', ?_, f2⟩
      rw [zfix_s]; unfold fX4_measure_2
      rw [if_pos (by rw [hs 81 (by omega) (by omega), h1]; exact nI_le (by omega) (by omega))]
      exact f1
    | succ m ih =>
      intro i fu S1 Pl e1 e2 hs hl hh hp1 hp2 hp3
      obtain ⟨fu, rfl⟩ : ∃ g, fu = g + 1 := ⟨fu - 1, by omega⟩
      obtain ⟨S2, Pl2, d1, d2, d3, d4, d5, d6, d7⟩ := c_me12 hF (by omega) (by omega) (show i < a by omega) h2 h3 h4 (zfix (fun _ _ => none) fX4_measure_2 fu) b 0 zF S1 Pl (by omega) (by unfold zF; omega) hs hl hh hp2
      obtain ⟨S', f1, f2⟩ := ih (i + 1) fu S2 Pl2 (by omega) (by omega) d2 d3 d4 (fun p q g => d5 p q (hp1 p q g)) d6 (fun i' j' g1 g2 => by
        by_cases ci : i' = i
        · subst ci; exact d7 j' (by omega) g2
        · exact d5 _ _ (hp3 i' j' (by omega) g2))
      refine ⟨S', ?_, f2⟩
      rw [zfix_s]; unfold fX4_measure_2
      rw [if_neg (by rw [hs 81 (by omega) (by omega), h1]; exact nI_ge (by omega) (by omega))]
      exact d1.trans f1
  exact key a 0 zF S (lnP F) (by omega) (by unfold zF; omega) (fun _ _ _ => rfl) h5 h6 (fun _ _ h => h) (fun _ _ h => Or.inl h) (fun _ _ h => by omega)
theorem c_marginAt {w : Nat → Int32} {K n t : Nat} {S : zT} (hw : wfW w K n) (ht : t < n) (hs : SO w K n S) : ∃ S', fX5_marginAt (nI t) S = some S' ∧ mOut (F_w w K n t) S' 92 := by
  obtain ⟨S1, e1, e2⟩ := c_gather hw ht hs
  obtain ⟨S2, f1, f2⟩ := c_measure (Fw_B hw t) (Nat.le_refl 8) e2
  refine ⟨S2, ?_, f2⟩
  unfold fX5_marginAt
  rw [e1, zbv_s, f1, zbv_s]
/-- the model's -/
theorem m_marginAt {w : Nat → Int32} {K n t : Nat} {S : zT} (hS : S.1 102 = w) (hw : wfW w K n) (ht : t < n) : ∃ r S', fX8_marginAt (nI t) S = some (r, S') ∧ ((r = 0 ∧ ¬ hasM (F_w w K n t)) ∨ (r = 1 ∧ hasM (F_w w K n t) ∧ (∃ a b, mgP (F_w w K n t) a b) ∧ S'.2 101 13 = jZ (mg_v (F_w w K n t)).1 ∧ S'.2 101 14 = jZ (mg_v (F_w w K n t)).2)) := by
  have hF := Fw_B hw t
  have hmx := hw.2.2.2.2.2.1
  have hmy := hw.2.2.2.2.2.2.1
  obtain ⟨S1, c, e1, e2, e3⟩ := m_feetAt hS hw ht
  have fr := frX8_feetAt e1
  have s1 : S1.1 102 = w := (fr.cell (by simp) (by omega)).trans hS
  obtain ⟨S2, Pl, f1, f2, f3, f4⟩ := m_holds hmx hmy hF e2 e3
  have fr2 := frX8_spans f1
  have s2 : S2.1 102 = w := (fr2.cell (by simp) (by omega)).trans s1
  unfold fX8_marginAt
  rw [e1, zbv_s, s1, tI_ii (w 4), f1, zbv_s, s2]
  rcases f2 with ⟨g1, g2⟩ | ⟨g0, ⟨p, q, g1, g2, g3⟩, p', q', g4, g5, g6⟩
  · rw [if_pos g2]
    refine ⟨0, S2, rfl, Or.inl ⟨rfl, ?_⟩⟩
    rintro ⟨p, q, h⟩
    obtain ⟨s, -, t⟩ := f3.2 p q h
    exact g1 _ _ t
  · obtain ⟨p1, q1, s, l1, l2, l3, l4⟩ := rel_lo hF f3 g1
    obtain ⟨p2, q2, s', l5, l6, l7, l8⟩ := rel_hi hF f3 g4
    have b1 := f4 _ _ g1.1
    have b2 := f4 _ _ g4.1
    have c1 := mk_B hF _ _ l1.1
    have c2 := mk_B hF _ _ l5.1
    have hy : (w 5).toInt64 = jZ (w 5).toInt := by rw [iZ_of (w 5), iZ_long (by omega) (by omega)]; rw [← iZ_of]
    rw [if_neg (by rw [g0]; exact one_ne), g2, g3, g5, g6, iZ_long (by omega) (by omega), iZ_long (by omega) (by omega), iZ_long (by omega) (by omega), iZ_long (by omega) (by omega), hy, show (2 : Int64) = jZ 2 from rfl, jZ_mul, jZ_mul, jZ_mul, jZ_sub, jZ_sub, jZ_mul, jZ_mul, jZ_mul, jZ_mul]
    have un : 2 * (w 5).toInt * q - p = -(s * p1) := by omega
    have ov : p' - 2 * (w 5).toInt * q' = s' * p2 := by omega
    rw [un, ov]
    have q1b : 2 * q = s * (2 * q1) := by rcases l2 with rfl | rfl <;> omega
    have q2b : 2 * q' = s' * (2 * q2) := by rcases l6 with rfl | rfl <;> omega
    have cmp : (s' * p2 * q < -(s * p1) * q') ↔ p2 * q1 < -p1 * q2 := by
      rw [l3, l7]
      rcases l2 with rfl | rfl <;> rcases l6 with rfl | rfl <;> grind
    have m1 := mul_bd (A := 50000) (B := 160) (show -50000 ≤ s' * p2 by rcases l6 with rfl | rfl <;> omega) (show s' * p2 ≤ 50000 by rcases l6 with rfl | rfl <;> omega) (show -160 ≤ q by omega) b1.2.2
    have m2 := mul_bd (A := 50000) (B := 160) (show -50000 ≤ -(s * p1) by rcases l2 with rfl | rfl <;> omega) (show -(s * p1) ≤ 50000 by rcases l2 with rfl | rfl <;> omega) (show -160 ≤ q' by omega) b2.2.2
    have hM : hasM (F_w w K n t) := ⟨_, _, l1.1⟩
    by_cases cc : s' * p2 * q < -(s * p1) * q'
    · rw [if_pos (by rw [cmp_gt0, jZ_lt (by omega) (by omega) (by omega) (by omega)]; exact cc)]
      have hmg : mgP (F_w w K n t) p2 (2 * q2) := ⟨p1, q1, p2, q2, l1, l5, Or.inr ⟨rfl, rfl⟩, by
        have := cmp.mp cc
        rintro x y ((h | ⟨rfl, rfl⟩) | ⟨rfl, rfl⟩)
        · exact h.elim
        · rw [Int.mul_left_comm, Int.mul_left_comm (-p1)]; omega
        · exact Int.le_refl _⟩
      obtain ⟨v1, v2⟩ := mg_vx hF hmg
      obtain ⟨S3, i1, i2, i3⟩ := m_share (S := S2) (p := s' * p2) (q := 2 * q') (by rcases l6 with rfl | rfl <;> omega) (by omega)
      have rr := rd_eq (a := s' * p2) (b := 2 * q') (a' := p2) (b' := 2 * q2) (by omega) (by omega) (by rw [q2b]; rcases l6 with rfl | rfl <;> grind)
      rw [i1, zbv_s]
      exact ⟨1, S3, rfl, Or.inr ⟨rfl, hM, ⟨_, _, hmg⟩, by rw [i2, v1, rr.1], by rw [i3, v2, rr.2]⟩⟩
    · rw [if_neg (by rw [cmp_gt0, jZ_lt (by omega) (by omega) (by omega) (by omega)]; exact cc)]
      have hmg : mgP (F_w w K n t) (-p1) (2 * q1) := ⟨p1, q1, p2, q2, l1, l5, Or.inl (Or.inr ⟨rfl, rfl⟩), by
        have : ¬ p2 * q1 < -p1 * q2 := fun h => cc (cmp.mpr h)
        rintro x y ((h | ⟨rfl, rfl⟩) | ⟨rfl, rfl⟩)
        · exact h.elim
        · exact Int.le_refl _
        · rw [Int.mul_left_comm, Int.mul_left_comm x]; omega⟩
      obtain ⟨v1, v2⟩ := mg_vx hF hmg
      obtain ⟨S3, i1, i2, i3⟩ := m_share (S := S2) (p := -(s * p1)) (q := 2 * q) (by rcases l2 with rfl | rfl <;> omega) (by omega)
      have rr := rd_eq (a := -(s * p1)) (b := 2 * q) (a' := -p1) (b' := 2 * q1) (by omega) (by omega) (by rw [q1b]; rcases l2 with rfl | rfl <;> grind)
      rw [i1, zbv_s]
      exact ⟨1, S3, rfl, Or.inr ⟨rfl, hM, ⟨_, _, hmg⟩, by rw [i2, v1, rr.1], by rw [i3, v2, rr.2]⟩⟩
