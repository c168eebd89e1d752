/-! the model's spans -/
def LX (fx : Nat → Int32) (mx : Int) (j : Nat) : Int := (fx j).toInt - 2 * mx
def lmX (fx fy : Nat → Int32) (mx my : Int) (j : Nat) : pQ := fun p q => LX fx mx j = 0 ∧ p = LX fy my j + 2 * my ∧ q = 1
def pmX (fx fy : Nat → Int32) (mx my : Int) (a b : Nat) : pQ := fun p q => LX fx mx a < 0 ∧ 0 < LX fx mx b ∧ p = 2 * my * (LX fx mx b - LX fx mx a) + (LX fy my a * LX fx mx b - LX fy my b * LX fx mx a) ∧ q = LX fx mx b - LX fx mx a
def mkX (fx fy : Nat → Int32) (mx my : Int) (c : Nat) : pQ := fun p q => (∃ j, j < c ∧ lmX fx fy mx my j p q) ∨ ∃ a b, a < c ∧ b < c ∧ pmX fx fy mx my a b p q
def bdX (fx fy : Nat → Int32) (mx my : Int) (c : Nat) : Prop := (-20 ≤ mx ∧ mx ≤ 20) ∧ (-20 ≤ my ∧ my ≤ 20) ∧ ∀ j, j < c → (-80 ≤ LX fx mx j ∧ LX fx mx j ≤ 80) ∧ (-300 ≤ LX fy my j ∧ LX fy my j ≤ 300)
theorem pmX_bd {fx fy : Nat → Int32} {mx my : Int} {c a b : Nat} (h : bdX fx fy mx my c) (ha : a < c) (hb : b < c) {p q : Int} (hp : pmX fx fy mx my a b p q) : (-70000 ≤ p ∧ p ≤ 70000) ∧ (1 ≤ q ∧ q ≤ 160) := by
  obtain ⟨h1, h2, h3⟩ := h
  obtain ⟨a1, a2⟩ := h3 a ha
  obtain ⟨b1, b2⟩ := h3 b hb
  obtain ⟨e1, e2, rfl, rfl⟩ := hp
  have m1 := mul_bd a2.1 a2.2 (show -80 ≤ LX fx mx b by omega) b1.2
  have m2 := mul_bd b2.1 b2.2 (show -80 ≤ LX fx mx a by omega) a1.2
  have m3 := mul_bd (show -40 ≤ 2 * my by omega) (show 2 * my ≤ 40 by omega) (show -160 ≤ LX fx mx b - LX fx mx a by omega) (show LX fx mx b - LX fx mx a ≤ 160 by omega)
  omega
theorem mkX_B {fx fy : Nat → Int32} {mx my : Int} {c : Nat} (h : bdX fx fy mx my c) : mkB 70000 160 (mkX fx fy mx my c) := by
  rintro p q (⟨j, hj, h1, rfl, rfl⟩ | ⟨a, b, ha, hb, hp⟩)
  · have := h.2.2 j hj
    have := h.2.1
    omega
  · exact pmX_bd h ha hb hp
theorem mkB_sub {B C : Int} {Pl Pl' : pQ} (h : mkB B C Pl') (hs : ∀ p q, Pl p q → Pl' p q) : mkB B C Pl := fun p q hp => h p q (hs p q hp)
def fcl (fx fy : Nat → Int32) (c : Nat) (S : zT) : Prop := S.1 104 = fx ∧ S.1 105 = fy ∧ S.1 101 5 = nI c
theorem fcl_place {fx fy : Nat → Int32} {c : Nat} {S S' : zT} {x y : Int32} (h : fcl fx fy c S) (e : fX8_place x y S = some S') : fcl fx fy c S' := by
  have fr := frX8_place e
  exact ⟨(fr.cell (by simp) (by omega)).trans h.1, (fr.cell (by simp) (by omega)).trans h.2.1, (fr.slot (by simp) (by simp)).trans h.2.2⟩
theorem m_sp38 {fx fy : Nat → Int32} {mx my : Int} {c a : Nat} (hb : bdX fx fy mx my c) (hc : c ≤ 8) (ha : a < c) (k : Int32 → Int32 → zT → Option zT) : ∀ (m b fu : Nat) (S : zT) (Pl : pQ), b + m = c → m < fu → fcl fx fy c S → mOK Pl S → (∀ p q, Pl p q → mkX fx fy mx my c p q) → ∃ S' Pl', zfix (fun _ _ _ _ => none) (fX8_spans_38 k) fu (iZ (2 * mx)) (nI a) (nI b) S = k (iZ (2 * mx)) (nI (a + 1)) S' ∧ fcl fx fy c S' ∧ mOK Pl' S' ∧ (∀ p q, Pl p q → Pl' p q) ∧ (∀ p q, Pl' p q → mkX fx fy mx my c p q) ∧ ∀ b', b ≤ b' → b' < c → ∀ p q, pmX fx fy mx my a b' p q → Pl' p q := by
  intro m
  induction m with
  | zero =>
    intro b fu S Pl h1 h2 hf hm hs
    obtain ⟨fu, rfl⟩ : ∃ g, fu = g + 1 := ⟨fu - 1, by omega⟩
    refine ⟨S, Pl, ?_, hf, hm, fun _ _ h => h, hs, fun b' _ _ => by omega⟩
    rw [zfix_s]; unfold fX8_spans_38
    rw [if_pos (by rw [hf.2.2]; exact nI_le (by omega) (by omega)), nI_1]
  | succ m ih =>
    intro b fu S Pl h1 h2 hf hm hs
    obtain ⟨fu, rfl⟩ : ∃ g, fu = g + 1 := ⟨fu - 1, by omega⟩
    have hb1 : b < c := by omega
    obtain ⟨bm, bmy, bj⟩ := hb
    have ga := gin (m := a) (N := 8) (by omega) (by omega)
    have gb := gin (m := b) (N := 8) (by omega) (by omega)
    have gb' : ¬ (nI b < 0 ∨ 8 ≤ b) := by have := gb; rw [nI_clamp (by omega)] at this; exact this
    have ga' : ¬ (nI a < 0 ∨ 8 ≤ a) := by have := ga; rw [nI_clamp (by omega)] at this; exact this
    have lxa : fx a = iZ (LX fx mx a + 2 * mx) := by unfold LX; rw [show (fx a).toInt - 2 * mx + 2 * mx = (fx a).toInt by omega]; exact iZ_of _
    have lxb : fx b = iZ (LX fx mx b + 2 * mx) := by unfold LX; rw [show (fx b).toInt - 2 * mx + 2 * mx = (fx b).toInt by omega]; exact iZ_of _
    have lya : fy a = iZ (LX fy my a + 2 * my) := by unfold LX; rw [show (fy a).toInt - 2 * my + 2 * my = (fy a).toInt by omega]; exact iZ_of _
    have lyb : fy b = iZ (LX fy my b + 2 * my) := by unfold LX; rw [show (fy b).toInt - 2 * my + 2 * my = (fy b).toInt by omega]; exact iZ_of _
    obtain ⟨a1, a2⟩ := bj a ha
    obtain ⟨b1, b2⟩ := bj b hb1
    have skip : (∀ p q, ¬ pmX fx fy mx my a b p q) → ∃ S' Pl', fX8_spans_122 (zfix (fun _ _ _ _ => none) (fX8_spans_38 k) fu) (iZ (2 * mx)) (nI a) (nI b) S = k (iZ (2 * mx)) (nI (a + 1)) S' ∧ fcl fx fy c S' ∧ mOK Pl' S' ∧ (∀ p q, Pl p q → Pl' p q) ∧ (∀ p q, Pl' p q → mkX fx fy mx my c p q) ∧ ∀ b', b ≤ b' → b' < c → ∀ p q, pmX fx fy mx my a b' p q → Pl' p q := by
      intro hno
      obtain ⟨S', Pl', e1, e2, e3, e4, e5, e6⟩ := ih (b + 1) fu S Pl (by omega) (by omega) hf hm hs
      refine ⟨S', Pl', ?_, e2, e3, e4, e5, fun b' g1 g2 p q g3 => ?_⟩
      · unfold fX8_spans_122; rw [nI_1]; exact e1
      · by_cases c : b' = b
        · subst c; exact absurd g3 (hno p q)
        · exact e6 b' (by omega) g2 p q g3
    rw [zfix_s]; unfold fX8_spans_38
    rw [if_neg (by rw [hf.2.2]; exact nI_ge (by omega) (by omega)), if_pos ga, nI_clamp (by omega), nI_clamp (by omega), hf.1, hf.2.1, lxa, lxb]
    by_cases c1 : 2 * mx ≤ LX fx mx a + 2 * mx
    · rw [if_pos (by rw [iZ_le (by omega) (by omega) (by omega) (by omega)]; exact c1)]
      exact skip (fun p q h => by have := h.1; omega)
    · rw [if_neg (by rw [iZ_le (by omega) (by omega) (by omega) (by omega)]; exact c1), if_pos gb']
      by_cases c2 : 2 * mx < LX fx mx b + 2 * mx
      · have hpm : pmX fx fy mx my a b (2 * my * (LX fx mx b - LX fx mx a) + (LX fy my a * LX fx mx b - LX fy my b * LX fx mx a)) (LX fx mx b - LX fx mx a) := ⟨by omega, by omega, rfl, rfl⟩
        have bd := pmX_bd ⟨bm, bmy, bj⟩ ha hb1 hpm
        obtain ⟨S1, e1, m1⟩ := m_place (B := 70000) (C := 160) (by omega) (by omega) (by omega) (mkB_sub (mkX_B ⟨bm, bmy, bj⟩) hs) bd.1 bd.2 hm
        obtain ⟨S', Pl', f1, f2, f3, f4, f5, f6⟩ := ih (b + 1) fu S1 _ (by omega) (by omega) (fcl_place hf e1) m1 (by
          rintro p q (h | ⟨rfl, rfl⟩)
          · exact hs p q h
          · exact Or.inr ⟨a, b, ha, hb1, hpm⟩)
        refine ⟨S', Pl', ?_, f2, f3, fun p q h => f4 p q (Or.inl h), f5, fun b' g1 g2 p q g3 => ?_⟩
        · rw [if_pos (by rw [iZ_lt (by omega) (by omega) (by omega) (by omega)]; exact c2), if_pos gb', if_pos ga', if_pos ga', if_pos gb', if_pos ga', if_pos ga', lya, lyb, iZ_sub, iZ_sub, iZ_sub, iZ_mul, iZ_mul, iZ_add]
          rw [show (LX fy my a + 2 * my) * (LX fx mx b + 2 * mx - (LX fx mx a + 2 * mx)) + (LX fy my b + 2 * my - (LX fy my a + 2 * my)) * (2 * mx - (LX fx mx a + 2 * mx)) = 2 * my * (LX fx mx b - LX fx mx a) + (LX fy my a * LX fx mx b - LX fy my b * LX fx mx a) by grind, show LX fx mx b + 2 * mx - (LX fx mx a + 2 * mx) = LX fx mx b - LX fx mx a by omega, e1, zbv_s]
          unfold fX8_spans_122; rw [nI_1]; exact f1
        · by_cases c : b' = b
          · subst c
            obtain ⟨-, -, rfl, rfl⟩ := g3
            exact f4 _ _ (Or.inr ⟨rfl, rfl⟩)
          · exact f6 b' (by omega) g2 p q g3
      · rw [if_neg (by rw [iZ_lt (by omega) (by omega) (by omega) (by omega)]; exact c2)]
        exact skip (fun p q h => by have := h.2.1; omega)
theorem mOK_cg {Pl Pl' : pQ} {S : zT} (h : ∀ p q, Pl p q ↔ Pl' p q) (hm : mOK Pl S) : mOK Pl' S := by
  rcases hm with ⟨g1, g2⟩ | ⟨g0, ⟨p, q, g1, g2⟩, p', q', g3, g4⟩
  · exact Or.inl ⟨fun p q hp => g1 p q ((h p q).mpr hp), g2⟩
  · exact Or.inr ⟨g0, ⟨p, q, lo_cg h g1, g2⟩, p', q', hi_cg h g3, g4⟩
theorem m_sp7 {fx fy : Nat → Int32} {mx my : Int} {c : Nat} (hb : bdX fx fy mx my c) (hc : c ≤ 8) : ∀ (m a fu : Nat) (S : zT) (Pl : pQ), a + m = c → m < fu → fcl fx fy c S → mOK Pl S → (∀ p q, Pl p q → mkX fx fy mx my c p q) → ∃ S' Pl', zfix (fun _ _ _ => none) fX8_spans_7 fu (iZ (2 * mx)) (nI a) S = some S' ∧ mOK Pl' S' ∧ (∀ p q, Pl p q → Pl' p q) ∧ (∀ p q, Pl' p q → mkX fx fy mx my c p q) ∧ ∀ a', a ≤ a' → a' < c → ∀ p q, (lmX fx fy mx my a' p q ∨ ∃ b, b < c ∧ pmX fx fy mx my a' b p q) → Pl' p q := by
  intro m
  induction m with
  | zero =>
    intro a fu S Pl h1 h2 hf hm hs
    obtain ⟨fu, rfl⟩ : ∃ g, fu = g + 1 := ⟨fu - 1, by omega⟩
    refine ⟨S, Pl, ?_, hm, fun _ _ h => h, hs, fun a' _ _ => by omega⟩
    rw [zfix_s]; unfold fX8_spans_7
    rw [if_pos (by rw [hf.2.2]; exact nI_le (by omega) (by omega))]
  | succ m ih =>
    intro a fu S Pl h1 h2 hf hm hs
    obtain ⟨fu, rfl⟩ : ∃ g, fu = g + 1 := ⟨fu - 1, by omega⟩
    have ha : a < c := by omega
    have ga := gin (m := a) (N := 8) (by omega) (by omega)
    have lxa : fx a = iZ (LX fx mx a + 2 * mx) := by unfold LX; rw [show (fx a).toInt - 2 * mx + 2 * mx = (fx a).toInt by omega]; exact iZ_of _
    have lya : fy a = iZ (LX fy my a + 2 * my) := by unfold LX; rw [show (fy a).toInt - 2 * my + 2 * my = (fy a).toInt by omega]; exact iZ_of _
    obtain ⟨a1, a2⟩ := hb.2.2 a ha
    have bm := hb.1
    have bmy := hb.2.1
    have go : ∀ S1 Pl1, fcl fx fy c S1 → mOK Pl1 S1 → (∀ p q, Pl p q → Pl1 p q) → (∀ p q, Pl1 p q → mkX fx fy mx my c p q) → (∀ p q, lmX fx fy mx my a p q → Pl1 p q) → ∃ S' Pl', fX8_spans_36 (zfix (fun _ _ _ => none) fX8_spans_7 fu) (iZ (2 * mx)) (nI a) S1 = some S' ∧ mOK Pl' S' ∧ (∀ p q, Pl p q → Pl' p q) ∧ (∀ p q, Pl' p q → mkX fx fy mx my c p q) ∧ ∀ a', a ≤ a' → a' < c → ∀ p q, (lmX fx fy mx my a' p q ∨ ∃ b, b < c ∧ pmX fx fy mx my a' b p q) → Pl' p q := by
      intro S1 Pl1 g1 g2 g3 g4 g5
      obtain ⟨S2, Pl2, e1, e2, e3, e4, e5, e6⟩ := m_sp38 hb hc ha (zfix (fun _ _ _ => none) fX8_spans_7 fu) c 0 zF S1 Pl1 (by omega) (by unfold zF; omega) g1 g2 g4
      obtain ⟨S3, Pl3, d1, d2, d3, d4, d5⟩ := ih (a + 1) fu S2 Pl2 (by omega) (by omega) e2 e3 e5
      refine ⟨S3, Pl3, e1.trans d1, d2, fun p q h => d3 p q (e4 p q (g3 p q h)), d4, fun a' i1 i2 p q i3 => ?_⟩
      by_cases ca : a' = a
      · subst ca
        rcases i3 with i3 | ⟨b, i3, i4⟩
        · exact d3 p q (e4 p q (g5 p q i3))
        · exact d3 p q (e6 b (by omega) i3 p q i4)
      · exact d5 a' (by omega) i2 p q i3
    rw [zfix_s]; unfold fX8_spans_7
    rw [if_neg (by rw [hf.2.2]; exact nI_ge (by omega) (by omega)), if_pos ga, nI_clamp (by omega), hf.1, hf.2.1, lxa]
    by_cases c1 : LX fx mx a + 2 * mx = 2 * mx
    · rw [if_pos (by rw [c1]), if_pos (show ¬ (nI a < 0 ∨ 8 ≤ a) by have := ga; rw [nI_clamp (by omega)] at this; exact this), lya]
      have hl : lmX fx fy mx my a (LX fy my a + 2 * my) 1 := ⟨by omega, rfl, rfl⟩
      obtain ⟨S1, e1, m1⟩ := m_place (B := 70000) (C := 160) (p1 := LX fy my a + 2 * my) (q1 := 1) (by omega) (by omega) (by omega) (mkB_sub (mkX_B hb) hs) (by omega) (by omega) hm
      rw [show (1 : Int32) = iZ 1 from rfl, e1, zbv_s]
      refine go S1 _ (fcl_place hf e1) m1 (fun p q h => Or.inl h) ?_ ?_
      · rintro p q (h | ⟨rfl, rfl⟩)
        · exact hs p q h
        · exact Or.inl ⟨a, ha, hl⟩
      · rintro p q ⟨-, rfl, rfl⟩; exact Or.inr ⟨rfl, rfl⟩
    · rw [if_neg (by rw [iZ_eq (by omega) (by omega) (by omega) (by omega)]; exact c1)]
      exact go S Pl hf hm (fun _ _ h => h) hs (fun p q h => by have := h.1; omega)
theorem m_spans {fx fy : Nat → Int32} {mx my : Int} {c : Nat} {S : zT} (hb : bdX fx fy mx my c) (hc : c ≤ 8) (hf : fcl fx fy c S) : ∃ S', fX8_spans (iZ (2 * mx)) S = some S' ∧ mOK (mkX fx fy mx my c) S' := by
  obtain ⟨S', Pl', e1, e2, e3, e4, e5⟩ := m_sp7 hb hc c 0 zF (zsi S 101 8 0) (fun _ _ => False) (by omega) (by unfold zF; omega) ⟨by rw [zsi_n _ _ (by omega)]; exact hf.1, by rw [zsi_n _ _ (by omega)]; exact hf.2.1, by rw [zsi_k, pk_un (by omega)]; exact hf.2.2⟩ (Or.inl ⟨fun _ _ h => h, by rw [zsi_k, pk_us]⟩) (fun _ _ h => h.elim)
  refine ⟨S', ?_, mOK_cg (fun p q => ⟨e4 p q, ?_⟩) e2⟩
  · unfold fX8_spans; rw [zlet_s]; exact e1
  · rintro (⟨j, h1, h2⟩ | ⟨a, b, h1, h2, h3⟩)
    · exact e5 j (by omega) h1 p q (Or.inl h2)
    · exact e5 a (by omega) h1 p q (Or.inr ⟨b, h2, h3⟩)
