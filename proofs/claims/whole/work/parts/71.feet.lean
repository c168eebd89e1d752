def Fq (δ : Nat → Bool) (X Y : Nat → Int) (K : Nat) : pQ := fun x y => ∃ i, i < K ∧ δ i = true ∧ x = X i ∧ y = Y i
theorem Fq_t {δ : Nat → Bool} {X Y : Nat → Int} {i : Nat} (h : δ i = true) : Fq δ X Y (i + 1) = adP (Fq δ X Y i) (X i) (Y i) := by
  funext x y
  apply propext
  constructor
  · rintro ⟨j, h1, h2, h3, h4⟩
    by_cases c : j = i
    · subst c; exact Or.inr ⟨h3, h4⟩
    · exact Or.inl ⟨j, by omega, h2, h3, h4⟩
  · rintro (⟨j, h1, h2⟩ | ⟨h3, h4⟩)
    · exact ⟨j, by omega, h2⟩
    · exact ⟨i, by omega, h, h3, h4⟩
theorem Fq_f {δ : Nat → Bool} {X Y : Nat → Int} {i : Nat} (h : ¬ δ i = true) : Fq δ X Y (i + 1) = Fq δ X Y i := by
  funext x y
  apply propext
  constructor
  · rintro ⟨j, h1, h2, h3⟩
    by_cases c : j = i
    · subst c; exact absurd h2 h
    · exact ⟨j, by omega, h2, h3⟩
  · rintro ⟨j, h1, h2⟩
    exact ⟨j, by omega, h2⟩
theorem Fq_0 (δ : Nat → Bool) (X Y : Nat → Int) : Fq δ X Y 0 = fun _ _ => False := by
  funext x y
  apply propext
  exact ⟨fun ⟨j, h, _⟩ => by omega, fun h => h.elim⟩
theorem Fq_B {δ : Nat → Bool} {X Y : Nat → Int} {K : Nat} (h : ∀ i, i < K → δ i = true → (-40 ≤ X i ∧ X i ≤ 40) ∧ (-300 ≤ Y i ∧ Y i ≤ 300)) : fB (Fq δ X Y K) := by
  rintro x y ⟨i, h1, h2, rfl, rfl⟩
  exact h i h1 h2
/-! the model's feet -/
def mS (F : pQ) (mx my : Int) (c : Nat) (S : zT) : Prop := S.1 101 5 = nI c ∧ (∀ j, j < c → ∃ X Y, F X Y ∧ LX (S.1 104) mx j = 2 * X ∧ LX (S.1 105) my j = Y) ∧ ∀ X Y, F X Y → ∃ j, j < c ∧ LX (S.1 104) mx j = 2 * X ∧ LX (S.1 105) my j = Y
theorem m_stand {F : pQ} {mx my : Int} {c : Nat} {S : zT} {X Y : Int} (hmx : -20 ≤ mx ∧ mx ≤ 20) (hmy : -20 ≤ my ∧ my ≤ 20) (hX : -40 ≤ X ∧ X ≤ 40) (hY : -300 ≤ Y ∧ Y ≤ 300) (hc : c < 8) (h : mS F mx my c S) : ∃ S', fX8_stand (iZ (2 * (X + mx))) (iZ (Y + 2 * my)) S = some S' ∧ mS (adP F X Y) mx my (c + 1) S' := by
  obtain ⟨h1, h2, h3⟩ := h
  have gc := gin (m := c) (N := 8) hc (by omega)
  have tX : (iZ (2 * (X + mx))).toInt = 2 * (X + mx) := iZ_toInt (by omega) (by omega)
  have tY : (iZ (Y + 2 * my)).toInt = Y + 2 * my := iZ_toInt (by omega) (by omega)
  have c5 : ∀ v, (zsi S 104 c v).1 101 5 = nI c := fun v => by rw [zsi_n _ _ (by omega)]; exact h1
  refine ⟨zsi (zsi (zsi S 104 c (iZ (2 * (X + mx)))) 105 c (iZ (Y + 2 * my))) 101 5 (nI c + 1), ?_, ?_, ?_, ?_⟩
  · unfold fX8_stand
    rw [h1, if_pos gc, zlet_s, nI_clamp (by omega), c5, if_pos gc, zlet_s, nI_clamp (by omega), zlet_s, zsi_n (k := 105) (k' := 101) _ _ (by omega), c5]
  · rw [zsi_k, pk_us, nI_1]
  · intro j hj
    rw [zsi_n (k := 101) (k' := 104) _ _ (by omega), zsi_n (k := 105) (k' := 104) _ _ (by omega), zsi_n (k := 101) (k' := 105) _ _ (by omega), zsi_k, zsi_k, zsi_n (k := 104) (k' := 105) _ _ (by omega)]
    unfold LX
    by_cases e : j = c
    · subst e
      rw [pk_us, pk_us, tX, tY]
      exact ⟨X, Y, Or.inr ⟨rfl, rfl⟩, by omega, by omega⟩
    · rw [pk_un e, pk_un e]
      obtain ⟨X', Y', g1, g2, g3⟩ := h2 j (by omega)
      exact ⟨X', Y', Or.inl g1, g2, g3⟩
  · intro X' Y' hf
    rw [zsi_n (k := 101) (k' := 104) _ _ (by omega), zsi_n (k := 105) (k' := 104) _ _ (by omega), zsi_n (k := 101) (k' := 105) _ _ (by omega), zsi_k, zsi_k, zsi_n (k := 104) (k' := 105) _ _ (by omega)]
    unfold LX
    rcases hf with hf | ⟨rfl, rfl⟩
    · obtain ⟨j, g1, g2, g3⟩ := h3 X' Y' hf
      exact ⟨j, by omega, by rw [pk_un (by omega)]; exact g2, by rw [pk_un (by omega)]; exact g3⟩
    · exact ⟨c, by omega, by rw [pk_us, tX]; omega, by rw [pk_us, tY]; omega⟩
def rel (F : pQ) (my : Int) (Pl : pQ) : Prop := (∀ p q, Pl p q → ∃ p' q', mkP F p' q' ∧ ∃ s : Int, (s = 1 ∨ s = 2) ∧ q = s * q' ∧ p = 2 * my * q + s * p') ∧ ∀ p' q', mkP F p' q' → ∃ s : Int, (s = 1 ∨ s = 2) ∧ Pl (2 * my * (s * q') + s * p') (s * q')
theorem rel_X {F : pQ} {mx my : Int} {c : Nat} {S : zT} (h : mS F mx my c S) : rel F my (mkX (S.1 104) (S.1 105) mx my c) := by
  obtain ⟨h1, h2, h3⟩ := h
  refine ⟨?_, ?_⟩
  · rintro p q (⟨j, j1, j2, rfl, rfl⟩ | ⟨a, b, a1, b1, g1, g2, rfl, rfl⟩)
    · obtain ⟨X, Y, e1, e2, e3⟩ := h2 j j1
      have : X = 0 := by omega
      subst this
      exact ⟨Y, 1, Or.inl ⟨e1, rfl⟩, 1, Or.inl rfl, by omega, by omega⟩
    · obtain ⟨Xa, Ya, e1, e2, e3⟩ := h2 a a1
      obtain ⟨Xb, Yb, d1, d2, d3⟩ := h2 b b1
      refine ⟨_, _, Or.inr ⟨Xa, Ya, Xb, Yb, e1, d1, by omega, by omega, rfl, rfl⟩, 2, Or.inr rfl, by omega, ?_⟩
      rw [e2, e3, d2, d3]; grind
  · rintro p' q' (⟨g1, rfl⟩ | ⟨Xa, Ya, Xb, Yb, e1, d1, g1, g2, rfl, rfl⟩)
    · obtain ⟨j, j1, j2, j3⟩ := h3 0 p' g1
      exact ⟨1, Or.inl rfl, Or.inl ⟨j, j1, by omega, by omega, by omega⟩⟩
    · obtain ⟨a, a1, a2, a3⟩ := h3 _ _ e1
      obtain ⟨b, b1, b2, b3⟩ := h3 _ _ d1
      refine ⟨2, Or.inr rfl, Or.inr ⟨a, b, a1, b1, by omega, by omega, ?_, by omega⟩⟩
      rw [a2, a3, b2, b3]; grind
theorem mk_B {F : pQ} (h : fB F) : mkB 24000 80 (mkP F) := by
  rintro p q (hl | ⟨Xa, Ya, Xb, Yb, e1, d1, g1, g2, rfl, rfl⟩)
  · have := ln_mkB h p q hl
    omega
  · have a1 := h _ _ e1
    have a2 := h _ _ d1
    have m1 := mul_bd a1.2.1 a1.2.2 (show -40 ≤ Xb by omega) a2.1.2
    have m2 := mul_bd a2.2.1 a2.2.2 (show -40 ≤ Xa by omega) a1.1.2
    omega
/-- the least mark of the model is the least of the class's -/
theorem rel_lo {F : pQ} {my : Int} {Pl : pQ} {p q : Int} (hF : fB F) (h : rel F my Pl) (hl : loOf Pl p q) : ∃ p' q' s, loOf (mkP F) p' q' ∧ (s = 1 ∨ s = 2) ∧ q = s * q' ∧ p = 2 * my * q + s * p' := by
  obtain ⟨p', q', h1, s, s1, s2, s3⟩ := h.1 p q hl.1
  refine ⟨p', q', s, ⟨h1, fun p1 q1 g1 => ?_⟩, s1, s2, s3⟩
  obtain ⟨s', t1, t2⟩ := h.2 p1 q1 g1
  have := hl.2 _ _ t2
  subst s2
  subst s3
  rcases s1 with rfl | rfl <;> rcases t1 with rfl | rfl <;> grind
theorem rel_hi {F : pQ} {my : Int} {Pl : pQ} {p q : Int} (hF : fB F) (h : rel F my Pl) (hl : hiOf Pl p q) : ∃ p' q' s, hiOf (mkP F) p' q' ∧ (s = 1 ∨ s = 2) ∧ q = s * q' ∧ p = 2 * my * q + s * p' := by
  obtain ⟨p', q', h1, s, s1, s2, s3⟩ := h.1 p q hl.1
  refine ⟨p', q', s, ⟨h1, fun p1 q1 g1 => ?_⟩, s1, s2, s3⟩
  obtain ⟨s', t1, t2⟩ := h.2 p1 q1 g1
  have := hl.2 _ _ t2
  subst s2
  subst s3
  rcases s1 with rfl | rfl <;> rcases t1 with rfl | rfl <;> grind
theorem lo_le {F : pQ} {p q : Int} (hF : fB F) (h : loOf (mkP F) p q) : p ≤ 0 ↔ ∃ p' q', mkP F p' q' ∧ p' ≤ 0 := by
  constructor
  · intro g; exact ⟨p, q, h.1, g⟩
  · rintro ⟨p', q', h1, h2⟩
    have e1 := h.2 p' q' h1
    have e2 := (mk_B hF p q h.1).2
    have e3 := (mk_B hF p' q' h1).2
    have e4 : p' * q ≤ 0 := Int.mul_nonpos_of_nonpos_of_nonneg h2 (by omega)
    by_cases c : p ≤ 0
    · exact c
    · have : 0 < p * q' := Int.mul_pos (by omega) (by omega)
      omega
theorem hi_ge {F : pQ} {p q : Int} (hF : fB F) (h : hiOf (mkP F) p q) : 0 ≤ p ↔ ∃ p' q', mkP F p' q' ∧ 0 ≤ p' := by
  constructor
  · intro g; exact ⟨p, q, h.1, g⟩
  · rintro ⟨p', q', h1, h2⟩
    have e1 := h.2 p' q' h1
    have e2 := (mk_B hF p q h.1).2
    have e3 := (mk_B hF p' q' h1).2
    have e4 : 0 ≤ p' * q := Int.mul_nonneg h2 (by omega)
    by_cases c : 0 ≤ p
    · exact c
    · have : 0 < (-p) * q' := Int.mul_pos (by omega) (by omega)
      rw [Int.neg_mul] at this
      omega
theorem m_within {F : pQ} {my : Int} {Pl : pQ} {S : zT} (hF : fB F) (hmy : -20 ≤ my ∧ my ≤ 20) (h : rel F my Pl) (hB : mkB 70000 160 Pl) (hm : mOK Pl S) : ∃ r, fX8_isWithin (iZ (2 * my)) S = some (r, S) ∧ tf r (SP F) := by
  unfold fX8_isWithin
  rcases hm with ⟨g1, g2⟩ | ⟨g0, ⟨p, q, g1, g2, g3⟩, p', q', g4, g5, g6⟩
  · rw [if_pos g2]
    refine ⟨0, rfl, tf_f ?_⟩
    rintro ⟨⟨p', q', h1, -⟩, -⟩
    obtain ⟨s, -, t⟩ := h.2 p' q' h1
    exact g1 _ _ t
  · have b1 := hB _ _ g1.1
    have b2 := hB _ _ g4.1
    have m1 := mul_bd (show -40 ≤ 2 * my by omega) (show 2 * my ≤ 40 by omega) (show -160 ≤ q by omega) b1.2.2
    have m2 := mul_bd (show -40 ≤ 2 * my by omega) (show 2 * my ≤ 40 by omega) (show -160 ≤ q' by omega) b2.2.2
    obtain ⟨p1, q1, s, l1, l2, l3, l4⟩ := rel_lo hF h g1
    obtain ⟨p2, q2, s', l5, l6, l7, l8⟩ := rel_hi hF h g4
    have i1 := lo_le hF l1
    have i2 := hi_ge hF l5
    rw [if_neg (by rw [g0]; exact one_ne), g2, g3, g5, g6, iZ_mul, iZ_mul]
    by_cases c1 : 2 * my * q < p
    · rw [if_pos (by rw [iZ_lt (by omega) (by omega) (by omega) (by omega)]; exact c1)]
      refine ⟨0, rfl, tf_f (fun hs => ?_)⟩
      have := i1.mpr hs.1
      rcases l2 with rfl | rfl <;> omega
    · rw [if_neg (by rw [iZ_lt (by omega) (by omega) (by omega) (by omega)]; exact c1)]
      have u : p1 ≤ 0 := by rcases l2 with rfl | rfl <;> omega
      by_cases c2 : p' < 2 * my * q'
      · rw [if_pos (by rw [iZ_lt (by omega) (by omega) (by omega) (by omega)]; exact c2)]
        refine ⟨0, rfl, tf_f (fun hs => ?_)⟩
        have := i2.mpr hs.2
        rcases l6 with rfl | rfl <;> omega
      · rw [if_neg (by rw [iZ_lt (by omega) (by omega) (by omega) (by omega)]; exact c2)]
        have u2 : 0 ≤ p2 := by rcases l6 with rfl | rfl <;> omega
        exact ⟨1, rfl, tf_t ⟨i1.mp u, i2.mp u2⟩⟩
theorem mS_bdX {F : pQ} {mx my : Int} {c : Nat} {S : zT} (hmx : -20 ≤ mx ∧ mx ≤ 20) (hmy : -20 ≤ my ∧ my ≤ 20) (hF : fB F) (h : mS F mx my c S) : bdX (S.1 104) (S.1 105) mx my c := by
  refine ⟨hmx, hmy, fun j hj => ?_⟩
  obtain ⟨X, Y, e1, e2, e3⟩ := h.2.1 j hj
  have := hF _ _ e1
  omega
theorem m_holds {F : pQ} {mx my : Int} {c : Nat} {S : zT} (hmx : -20 ≤ mx ∧ mx ≤ 20) (hmy : -20 ≤ my ∧ my ≤ 20) (hF : fB F) (hc : c ≤ 8) (h : mS F mx my c S) : ∃ S' Pl, fX8_spans (iZ (2 * mx)) S = some S' ∧ mOK Pl S' ∧ rel F my Pl ∧ mkB 70000 160 Pl := by
  have hb := mS_bdX hmx hmy hF h
  obtain ⟨S', e1, e2⟩ := m_spans hb hc ⟨rfl, rfl, h.1⟩
  exact ⟨S', _, e1, e2, rel_X h, mkX_B hb⟩
