def hg_i (S : zT) (i j : Nat) : Int := (S.1 85 i).toInt * (S.1 87 j).toInt - (S.1 89 j).toInt * (S.1 83 i).toInt
theorem c_height {i j : Nat} (hi : i < 8) (hj : j < 8) (S : zT) : fX4_heightAbove (nI i) (nI j) S = some (iZ (hg_i S i j), S) := by
  unfold fX4_heightAbove hg_i
  rw [at_in (by omega) (by omega), zbi_s, at_in (by omega) (by omega), zbi_s, at_in (by omega) (by omega), zbi_s, at_in (by omega) (by omega), zbi_s, ← iZ_sub, ← iZ_mul, ← iZ_mul, ← iZ_of, ← iZ_of, ← iZ_of, ← iZ_of]
theorem hg_bd {F : pQ} {a b i j : Nat} {S : zT} (hF : fB F) (h3 : sdOK F (· < 0) a (S.1 83) (S.1 85)) (h4 : sdOK F (0 < ·) b (S.1 87) (S.1 89)) (hi : i < a) (hj : j < b) : -24000 ≤ hg_i S i j ∧ hg_i S i j ≤ 24000 := by
  have a1 := hF _ _ (h3.1 i hi).1
  have a2 := hF _ _ (h4.1 j hj).1
  have m1 := mul_bd a1.2.1 a1.2.2 (show -40 ≤ (S.1 87 j).toInt by omega) a2.1.2
  have m2 := mul_bd a2.2.1 a2.2.2 (show -40 ≤ (S.1 83 i).toInt by omega) a1.1.2
  unfold hg_i
  omega
theorem tf_step {x : Int32} {P Q : Prop} (h : tf x P) (hQ : Q) : tf 1 (P ∨ Q) := tf_t (Or.inr hQ)
theorem c_hm77 {F : pQ} {a b i : Nat} {S : zT} (hF : fB F) (ha : a ≤ 8) (hb : b ≤ 8) (hi : i < a) (h2 : S.1 81 5 = nI b) (h3 : sdOK F (· < 0) a (S.1 83) (S.1 85)) (h4 : sdOK F (0 < ·) b (S.1 87) (S.1 89)) (U O : Prop) (k : Int32 → Int32 → Int32 → zT → Option (Int32 × zT)) : ∀ (m j fu : Nat) (x1 x2 : Int32), j + m = b → m < fu → tf x1 (U ∨ ∃ j', j' < j ∧ hg_i S i j' ≤ 0) → tf x2 (O ∨ ∃ j', j' < j ∧ 0 ≤ hg_i S i j') → ∃ y1 y2, zfix (fun _ _ _ _ _ => none) (fX4_holdsMiddle_77 k) fu x1 x2 (nI i) (nI j) S = k y1 y2 (nI (i + 1)) S ∧ tf y1 (U ∨ ∃ j', j' < b ∧ hg_i S i j' ≤ 0) ∧ tf y2 (O ∨ ∃ j', j' < b ∧ 0 ≤ hg_i S i j') := by
  intro m
  induction m with
  | zero =>
    intro j fu x1 x2 e1 e2 t1 t2
    obtain ⟨fu, rfl⟩ : ∃ g, fu = g + 1 := ⟨fu - 1, by omega⟩
    have : j = b := by omega
    subst this
    refine ⟨x1, x2, ?_, t1, t2⟩
    rw [zfix_s]; unfold fX4_holdsMiddle_77
    rw [if_pos (by rw [h2]; exact nI_le (by omega) (by omega)), nI_1]
  | succ m ih =>
    intro j fu x1 x2 e1 e2 t1 t2
    obtain ⟨fu, rfl⟩ : ∃ g, fu = g + 1 := ⟨fu - 1, by omega⟩
    have bd := hg_bd hF h3 h4 hi (show j < b by omega)
    have z0 : (0 : Int32) = iZ 0 := rfl
    have ext : ∀ (P : Prop) (p : Nat → Prop), (P ∨ ∃ j', j' < j + 1 ∧ p j') ↔ ((P ∨ ∃ j', j' < j ∧ p j') ∨ p j) := by
      intro P p
      constructor
      · rintro (h | ⟨j', h, g⟩)
        · exact Or.inl (Or.inl h)
        · by_cases c : j' = j
          · subst c; exact Or.inr g
          · exact Or.inl (Or.inr ⟨j', by omega, g⟩)
      · rintro ((h | ⟨j', h, g⟩) | h)
        · exact Or.inl h
        · exact Or.inr ⟨j', by omega, g⟩
        · exact Or.inr ⟨j, by omega, h⟩
    have go : ∀ y1 y2, tf y1 (U ∨ ∃ j', j' < j + 1 ∧ hg_i S i j' ≤ 0) → tf y2 (O ∨ ∃ j', j' < j + 1 ∧ 0 ≤ hg_i S i j') → ∃ z1 z2, zfix (fun _ _ _ _ _ => none) (fX4_holdsMiddle_77 k) fu y1 y2 (nI i) (nI j + 1) S = k z1 z2 (nI (i + 1)) S ∧ tf z1 (U ∨ ∃ j', j' < b ∧ hg_i S i j' ≤ 0) ∧ tf z2 (O ∨ ∃ j', j' < b ∧ 0 ≤ hg_i S i j') := by
      intro y1 y2 g1 g2
      rw [nI_1]
      exact ih (j + 1) fu y1 y2 (by omega) (by omega) g1 g2
    have go2 : ∀ y1, tf y1 (U ∨ ∃ j', j' < j + 1 ∧ hg_i S i j' ≤ 0) → ∃ z1 z2, fX4_holdsMiddle_109 (zfix (fun _ _ _ _ _ => none) (fX4_holdsMiddle_77 k) fu) x2 (nI i) (nI j) (iZ (hg_i S i j)) y1 S = k z1 z2 (nI (i + 1)) S ∧ tf z1 (U ∨ ∃ j', j' < b ∧ hg_i S i j' ≤ 0) ∧ tf z2 (O ∨ ∃ j', j' < b ∧ 0 ≤ hg_i S i j') := by
      intro y1 g1
      unfold fX4_holdsMiddle_109 fX4_holdsMiddle_119 fX4_holdsMiddle_124
      rcases t2 with ⟨rfl, t2⟩ | ⟨rfl, t2⟩
      · rw [if_neg one_ne]
        exact go _ _ g1 (tf_t ((ext _ _).mpr (Or.inl t2)))
      · rw [if_pos rfl]
        by_cases c : hg_i S i j < 0
        · rw [if_pos (by rw [z0, iZ_lt (by omega) (by omega) (by omega) (by omega)]; exact c)]
          exact go _ _ g1 (tf_f (by rw [ext]; rintro (h | h); exact t2 h; omega))
        · rw [if_neg (by rw [z0, iZ_lt (by omega) (by omega) (by omega) (by omega)]; exact c)]
          exact go _ _ g1 (tf_t ((ext _ _).mpr (Or.inr (by omega))))
    rw [zfix_s]; unfold fX4_holdsMiddle_77 fX4_holdsMiddle_104
    rw [if_neg (by rw [h2]; exact nI_ge (by omega) (by omega)), c_height (by omega) (by omega), zbi_s]
    rcases t1 with ⟨rfl, t1⟩ | ⟨rfl, t1⟩
    · rw [if_neg one_ne]
      exact go2 _ (tf_t ((ext _ _).mpr (Or.inl t1)))
    · rw [if_pos rfl]
      by_cases c : 0 < hg_i S i j
      · rw [if_pos (by rw [z0, iZ_lt (by omega) (by omega) (by omega) (by omega)]; exact c)]
        exact go2 _ (tf_f (by rw [ext]; rintro (h | h); exact t1 h; omega))
      · rw [if_neg (by rw [z0, iZ_lt (by omega) (by omega) (by omega) (by omega)]; exact c)]
        exact go2 _ (tf_t ((ext _ _).mpr (Or.inr (by omega))))
theorem c_hm58 {F : pQ} {a b : Nat} {S : zT} (hF : fB F) (ha : a ≤ 8) (hb : b ≤ 8) (h1 : S.1 81 4 = nI a) (h2 : S.1 81 5 = nI b) (h3 : sdOK F (· < 0) a (S.1 83) (S.1 85)) (h4 : sdOK F (0 < ·) b (S.1 87) (S.1 89)) (U O : Prop) : ∀ (m i fu : Nat) (x1 x2 : Int32), i + m = a → m < fu → tf x1 (U ∨ ∃ i' j', i' < i ∧ j' < b ∧ hg_i S i' j' ≤ 0) → tf x2 (O ∨ ∃ i' j', i' < i ∧ j' < b ∧ 0 ≤ hg_i S i' j') → ∃ r, zfix (fun _ _ _ _ => none) fX4_holdsMiddle_58 fu x1 x2 (nI i) S = some (r, S) ∧ tf r ((U ∨ ∃ i' j', i' < a ∧ j' < b ∧ hg_i S i' j' ≤ 0) ∧ (O ∨ ∃ i' j', i' < a ∧ j' < b ∧ 0 ≤ hg_i S i' j')) := by
  have fin : ∀ x1 x2 P Q, tf x1 P → tf x2 Q → ∃ r, fX4_holdsMiddle_137 x1 x2 S = some (r, S) ∧ tf r (P ∧ Q) := by
    intro x1 x2 P Q t1 t2
    unfold fX4_holdsMiddle_137
    rcases t1 with ⟨rfl, t1⟩ | ⟨rfl, t1⟩
    · rw [if_neg one_ne]
      rcases t2 with ⟨rfl, t2⟩ | ⟨rfl, t2⟩
      · rw [if_neg one_ne]; exact ⟨1, rfl, tf_t ⟨t1, t2⟩⟩
      · rw [if_pos rfl]; exact ⟨0, rfl, tf_f (fun h => t2 h.2)⟩
    · rw [if_pos rfl]; exact ⟨0, rfl, tf_f (fun h => t1 h.1)⟩
  intro m
  induction m with
  | zero =>
    intro i fu x1 x2 e1 e2 t1 t2
    obtain ⟨fu, rfl⟩ : ∃ g, fu = g + 1 := ⟨fu - 1, by omega⟩
    have : i = a := by omega
    subst this
    obtain ⟨r, r1, r2⟩ := fin _ _ _ _ t1 t2
    refine ⟨r, ?_, r2⟩
    rw [zfix_s]; unfold fX4_holdsMiddle_58
    rw [if_pos (by rw [h1]; exact nI_le (by omega) (by omega))]; exact r1
  | succ m ih =>
    intro i fu x1 x2 e1 e2 t1 t2
    obtain ⟨fu, rfl⟩ : ∃ g, fu = g + 1 := ⟨fu - 1, by omega⟩
    have ext : ∀ (P : Prop) (p : Nat → Nat → Prop), ((P ∨ ∃ i' j', i' < i ∧ j' < b ∧ p i' j') ∨ ∃ j', j' < b ∧ p i j') ↔ (P ∨ ∃ i' j', i' < i + 1 ∧ j' < b ∧ p i' j') := by
      intro P p
      constructor
      · rintro ((h | ⟨i', j', h, g⟩) | ⟨j', h, g⟩)
        · exact Or.inl h
        · exact Or.inr ⟨i', j', by omega, g⟩
        · exact Or.inr ⟨i, j', by omega, h, g⟩
      · rintro (h | ⟨i', j', h, g1, g2⟩)
        · exact Or.inl (Or.inl h)
        · by_cases c : i' = i
          · subst c; exact Or.inr ⟨j', g1, g2⟩
          · exact Or.inl (Or.inr ⟨i', j', by omega, g1, g2⟩)
    have go : ∃ r, fX4_holdsMiddle_74 (zfix (fun _ _ _ _ => none) fX4_holdsMiddle_58 fu) x1 x2 (nI i) S = some (r, S) ∧ tf r ((U ∨ ∃ i' j', i' < a ∧ j' < b ∧ hg_i S i' j' ≤ 0) ∧ (O ∨ ∃ i' j', i' < a ∧ j' < b ∧ 0 ≤ hg_i S i' j')) := by
      obtain ⟨y1, y2, g0, g1, g2⟩ := c_hm77 (i := i) hF ha hb (by omega) h2 h3 h4 _ _ (zfix (fun _ _ _ _ => none) fX4_holdsMiddle_58 fu) b 0 zF x1 x2 (by omega) (by unfold zF; omega) (tf_cg ⟨fun h => Or.inl h, fun h => h.elim id (fun ⟨j', h, _⟩ => by omega)⟩ t1) (tf_cg ⟨fun h => Or.inl h, fun h => h.elim id (fun ⟨j', h, _⟩ => by omega)⟩ t2)
      obtain ⟨r, r1, r2⟩ := ih (i + 1) fu y1 y2 (by omega) (by omega) (tf_cg (ext _ _) g1) (tf_cg (ext _ _) g2)
      exact ⟨r, g0.trans r1, r2⟩
    rw [zfix_s]; unfold fX4_holdsMiddle_58
    rw [if_neg (by rw [h1]; exact nI_ge (by omega) (by omega))]
    rcases t1 with ⟨rfl, t1⟩ | ⟨rfl, t1⟩
    · rw [if_neg one_ne]
      rcases t2 with ⟨rfl, t2⟩ | ⟨rfl, t2⟩
      · rw [if_neg one_ne]
        unfold fX4_holdsMiddle_137
        rw [if_neg one_ne, if_neg one_ne]
        refine ⟨1, rfl, tf_t ⟨?_, ?_⟩⟩
        · rcases t1 with h | ⟨i', j', h, g⟩
          · exact Or.inl h
          · exact Or.inr ⟨i', j', by omega, g⟩
        · rcases t2 with h | ⟨i', j', h, g⟩
          · exact Or.inl h
          · exact Or.inr ⟨i', j', by omega, g⟩
      · rw [if_pos rfl]; exact go
    · rw [if_pos rfl]; exact go
theorem c_holds {F : pQ} {c : Nat} {S : zT} (hF : fB F) (hc : c ≤ 8) (h : cS F c S) : ∃ r, fX4_holdsMiddle S = some (r, S) ∧ tf r (SP F) := by
  obtain ⟨a, b, h0, h1, h2, h3, h4, h5, h6⟩ := h
  have main : ∀ x1 x2, tf x1 (∃ p, F 0 p ∧ p ≤ 0) → tf x2 (∃ p, F 0 p ∧ 0 ≤ p) → ∃ r, fX4_holdsMiddle_55 x1 x2 S = some (r, S) ∧ tf r (SP F) := by
    intro x1 x2 t1 t2
    obtain ⟨r, r1, r2⟩ := c_hm58 hF (by omega) (by omega) h1 h2 h3 h4 _ _ a 0 zF x1 x2 (by omega) (by unfold zF; omega) (tf_cg ⟨fun h => Or.inl h, fun h => h.elim id (fun ⟨i', j', h, _⟩ => by omega)⟩ t1) (tf_cg ⟨fun h => Or.inl h, fun h => h.elim id (fun ⟨i', j', h, _⟩ => by omega)⟩ t2)
    refine ⟨r, r1, tf_cg ?_ r2⟩
    have half : ∀ p : Int → Prop, ((∃ y, F 0 y ∧ p y) ∨ ∃ i' j', i' < a ∧ j' < b ∧ p (hg_i S i' j')) ↔ ∃ y q, mkP F y q ∧ p y := by
      intro p
      constructor
      · rintro (⟨y, g1, g2⟩ | ⟨i, j, g1, g2, g3⟩)
        · exact ⟨y, 1, Or.inl ⟨g1, rfl⟩, g2⟩
        · exact ⟨_, _, Or.inr ⟨_, _, _, _, (h3.1 i g1).1, (h4.1 j g2).1, (h3.1 i g1).2, (h4.1 j g2).2, rfl, rfl⟩, g3⟩
      · rintro ⟨y, q, ⟨g1, g2⟩ | ⟨Xa, Ya, Xb, Yb, g1, g2, g3, g4, rfl, g5⟩, g6⟩
        · exact Or.inl ⟨y, g1, g6⟩
        · obtain ⟨i, i1, i2, i3⟩ := h3.2 _ _ g1 g3
          obtain ⟨j, j1, j2, j3⟩ := h4.2 _ _ g2 g4
          refine Or.inr ⟨i, j, i1, j1, ?_⟩
          unfold hg_i
          rw [i2, i3, j2, j3]; exact g6
    unfold SP
    rw [half (fun y => y ≤ 0), half (fun y => 0 ≤ y)]
  have over : ∀ x1, tf x1 (∃ p, F 0 p ∧ p ≤ 0) → ∃ r, fX4_holdsMiddle_27 x1 S = some (r, S) ∧ tf r (SP F) := by
    intro x1 t1
    unfold fX4_holdsMiddle_27 fX4_holdsMiddle_54 fX1_isNone
    rcases h6 with ⟨g1, g2⟩ | ⟨p, q, g1, g2, g3⟩
    · rw [g2, if_pos ((cmp_eq0 _ _).mpr rfl), zbi_s, if_neg one_ne]
      exact main _ _ t1 (tf_f (fun ⟨p, g, _⟩ => g1 p 1 ⟨g, rfl⟩))
    · obtain ⟨bp, bq⟩ := ln_mkB hF p q g1.1
      rw [g3, if_neg (by rw [cmp_eq0, show (0 : Int64) = jZ 0 from rfl, jZ_eq (by omega) (by omega) (by omega) (by omega)]; omega), zbi_s, if_pos rfl, g2]
      have q1 := g1.1.2
      subst q1
      by_cases c : p < 0
      · rw [if_pos (by rw [cmp_lt0, show (0 : Int64) = jZ 0 from rfl, jZ_lt (by omega) (by omega) (by omega) (by omega)]; exact c)]
        exact main _ _ t1 (tf_f (fun ⟨p', g, g'⟩ => by have := g1.2 p' 1 ⟨g, rfl⟩; omega))
      · rw [if_neg (by rw [cmp_lt0, show (0 : Int64) = jZ 0 from rfl, jZ_lt (by omega) (by omega) (by omega) (by omega)]; exact c)]
        exact main _ _ t1 (tf_t ⟨p, g1.1.1, by omega⟩)
  unfold fX4_holdsMiddle fX4_holdsMiddle_26 fX1_isNone
  rcases h5 with ⟨g1, g2⟩ | ⟨p, q, g1, g2, g3⟩
  · rw [g2, if_pos ((cmp_eq0 _ _).mpr rfl), zbi_s, if_neg one_ne]
    exact over _ (tf_f (fun ⟨p, g, _⟩ => g1 p 1 ⟨g, rfl⟩))
  · obtain ⟨bp, bq⟩ := ln_mkB hF p q g1.1
    rw [g3, if_neg (by rw [cmp_eq0, show (0 : Int64) = jZ 0 from rfl, jZ_eq (by omega) (by omega) (by omega) (by omega)]; omega), zbi_s, if_pos rfl, g2]
    have q1 := g1.1.2
    subst q1
    by_cases c : 0 < p
    · rw [if_pos (by rw [cmp_gt0, show (0 : Int64) = jZ 0 from rfl, jZ_lt (by omega) (by omega) (by omega) (by omega)]; exact c)]
      exact over _ (tf_f (fun ⟨p', g, g'⟩ => by have := g1.2 p' 1 ⟨g, rfl⟩; omega))
    · rw [if_neg (by rw [cmp_gt0, show (0 : Int64) = jZ 0 from rfl, jZ_lt (by omega) (by omega) (by omega) (by omega)]; exact c)]
      exact over _ (tf_t ⟨p, g1.1.1, by omega⟩)
