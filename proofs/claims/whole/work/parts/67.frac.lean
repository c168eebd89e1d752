/-! fractions -/
abbrev jZ (z : Int) : Int64 := Int64.ofInt z
theorem jZ_toInt {z : Int} (h1 : -9223372036854775808 ≤ z) (h2 : z < 9223372036854775808) : (jZ z).toInt = z := Int64.toInt_ofInt_of_le (by omega) (by omega)
theorem jZ_mul (a b : Int) : jZ a * jZ b = jZ (a * b) := (Int64.ofInt_mul a b).symm
theorem jZ_add (a b : Int) : jZ a + jZ b = jZ (a + b) := (Int64.ofInt_add a b).symm
theorem jZ_sub (a b : Int) : jZ a - jZ b = jZ (a - b) := (Int64.ofInt_sub a b).symm
theorem jZ_neg (a : Int) : -jZ a = jZ (-a) := (Int64.ofInt_neg a).symm
theorem jZ_le {a b : Int} (h1 : -9223372036854775808 ≤ a) (h2 : a < 9223372036854775808) (h3 : -9223372036854775808 ≤ b) (h4 : b < 9223372036854775808) : jZ a ≤ jZ b ↔ a ≤ b := by
  rw [Int64.le_iff_toInt_le, jZ_toInt h1 h2, jZ_toInt h3 h4]
theorem jZ_lt {a b : Int} (h1 : -9223372036854775808 ≤ a) (h2 : a < 9223372036854775808) (h3 : -9223372036854775808 ≤ b) (h4 : b < 9223372036854775808) : jZ a < jZ b ↔ a < b := by
  rw [Int64.lt_iff_toInt_lt, jZ_toInt h1 h2, jZ_toInt h3 h4]
theorem jZ_eq {a b : Int} (h1 : -9223372036854775808 ≤ a) (h2 : a < 9223372036854775808) (h3 : -9223372036854775808 ≤ b) (h4 : b < 9223372036854775808) : jZ a = jZ b ↔ a = b := by
  rw [← Int64.toInt_inj, jZ_toInt h1 h2, jZ_toInt h3 h4]
theorem iZ_long {z : Int} (h1 : -2147483648 ≤ z) (h2 : z < 2147483648) : (iZ z).toInt64 = jZ z := by
  rw [← Int64.toInt_inj, Int32.toInt_toInt64, iZ_toInt h1 h2, jZ_toInt (by omega) (by omega)]
theorem cmp_eq0 (x y : Int64) : lg_cmp x y = 0 ↔ x = y := by
  unfold lg_cmp
  by_cases h : x > y
  · rw [if_pos h]
    constructor
    · intro h2; exact absurd h2 (by decide)
    · intro h2; subst h2; exact absurd h (by rw [gt_iff_lt, Int64.lt_iff_toInt_lt]; omega)
  · rw [if_neg h]
    by_cases h2 : x = y
    · rw [if_pos h2]; simp [h2]
    · rw [if_neg h2]
      constructor
      · intro h3; exact absurd h3 (by decide)
      · intro h3; exact absurd h3 h2
theorem cmp_le0 (x y : Int64) : lg_cmp x y ≤ 0 ↔ x ≤ y := by
  unfold lg_cmp
  rw [Int64.le_iff_toInt_le]
  by_cases h : x > y
  · have h' : y.toInt < x.toInt := by rw [gt_iff_lt, Int64.lt_iff_toInt_lt] at h; exact h
    rw [if_pos h]
    constructor
    · intro h2; exact absurd h2 (by decide)
    · intro h2; omega
  · have h' : ¬ y.toInt < x.toInt := by rw [gt_iff_lt, Int64.lt_iff_toInt_lt] at h; exact h
    rw [if_neg h]
    constructor
    · intro _; omega
    · intro _; split <;> decide
theorem cmp_gt0 (x y : Int64) : 0 < lg_cmp x y ↔ y < x := by
  rw [← Int32.not_le, cmp_le0, Int64.le_iff_toInt_le, Int64.lt_iff_toInt_lt]; omega
theorem cmp_lt0 (x y : Int64) : lg_cmp x y < 0 ↔ x < y := by
  rw [← Int32.not_le, lg_cmp_ge, Int64.le_iff_toInt_le, Int64.lt_iff_toInt_lt]; omega
/-- of three fractions -/
theorem fr_tr {p q p1 q1 p' q' : Int} (hq : 0 < q) (hq' : 0 < q') (hq1 : 0 < q1) (h1 : p1 * q ≤ p * q1) (h2 : p * q' ≤ p' * q) : p1 * q' ≤ p' * q1 := by
  have e1 : p1 * q * q' ≤ p * q1 * q' := Int.mul_le_mul_of_nonneg_right h1 (by omega)
  have e2 : p * q' * q1 ≤ p' * q * q1 := Int.mul_le_mul_of_nonneg_right h2 (by omega)
  have e3 : p * q1 * q' = p * q' * q1 := Int.mul_right_comm p q1 q'
  have e4 : p1 * q' * q ≤ p' * q1 * q := by
    rw [Int.mul_right_comm p1 q' q, Int.mul_right_comm p' q1 q]; omega
  exact Int.le_of_mul_le_mul_right e4 hq
abbrev pQ : Type := Int → Int → Prop
/-- marks are small: |p| at most B, q in 1 .. C -/
def mkB (B C : Int) (Pl : pQ) : Prop := ∀ p q, Pl p q → (-B ≤ p ∧ p ≤ B) ∧ (1 ≤ q ∧ q ≤ C)
def loOf (Pl : pQ) (p q : Int) : Prop := Pl p q ∧ ∀ p' q', Pl p' q' → p * q' ≤ p' * q
def hiOf (Pl : pQ) (p q : Int) : Prop := Pl p q ∧ ∀ p' q', Pl p' q' → p' * q ≤ p * q'
def adP (Pl : pQ) (p1 q1 : Int) : pQ := fun p q => Pl p q ∨ (p = p1 ∧ q = q1)
theorem lo_keep {Pl : pQ} {p q p1 q1 : Int} (h : loOf Pl p q) (h1 : p * q1 ≤ p1 * q) : loOf (adP Pl p1 q1) p q := by
  refine ⟨Or.inl h.1, fun p' q' h' => ?_⟩
  rcases h' with h' | ⟨rfl, rfl⟩
  · exact h.2 p' q' h'
  · exact h1
theorem lo_new {B C : Int} {Pl : pQ} {p q p1 q1 : Int} (hB : mkB B C Pl) (h : loOf Pl p q) (hq1 : 0 < q1) (h1 : p1 * q ≤ p * q1) : loOf (adP Pl p1 q1) p1 q1 := by
  refine ⟨Or.inr ⟨rfl, rfl⟩, fun p' q' h' => ?_⟩
  rcases h' with h' | ⟨rfl, rfl⟩
  · exact fr_tr (by have := (hB p q h.1).2; omega) (by have := (hB p' q' h').2; omega) hq1 h1 (h.2 p' q' h')
  · exact Int.le_refl _
theorem hi_keep {Pl : pQ} {p q p1 q1 : Int} (h : hiOf Pl p q) (h1 : p1 * q ≤ p * q1) : hiOf (adP Pl p1 q1) p q := by
  refine ⟨Or.inl h.1, fun p' q' h' => ?_⟩
  rcases h' with h' | ⟨rfl, rfl⟩
  · exact h.2 p' q' h'
  · exact h1
theorem hi_new {B C : Int} {Pl : pQ} {p q p1 q1 : Int} (hB : mkB B C Pl) (h : hiOf Pl p q) (hq1 : 0 < q1) (h1 : p * q1 ≤ p1 * q) : hiOf (adP Pl p1 q1) p1 q1 := by
  refine ⟨Or.inr ⟨rfl, rfl⟩, fun p' q' h' => ?_⟩
  rcases h' with h' | ⟨rfl, rfl⟩
  · exact fr_tr (by have := (hB p q h.1).2; omega) hq1 (by have := (hB p' q' h').2; omega) (h.2 p' q' h') h1
  · exact Int.le_refl _
theorem lo_first {Pl : pQ} {p1 q1 : Int} (h : ∀ p q, ¬ Pl p q) : loOf (adP Pl p1 q1) p1 q1 := ⟨Or.inr ⟨rfl, rfl⟩, fun p' q' h' => by
  rcases h' with h' | ⟨rfl, rfl⟩
  · exact absurd h' (h _ _)
  · exact Int.le_refl _⟩
theorem hi_first {Pl : pQ} {p1 q1 : Int} (h : ∀ p q, ¬ Pl p q) : hiOf (adP Pl p1 q1) p1 q1 := ⟨Or.inr ⟨rfl, rfl⟩, fun p' q' h' => by
  rcases h' with h' | ⟨rfl, rfl⟩
  · exact absurd h' (h _ _)
  · exact Int.le_refl _⟩
theorem mkB_ad {B C : Int} {Pl : pQ} {p1 q1 : Int} (h : mkB B C Pl) (h1 : -B ≤ p1 ∧ p1 ≤ B) (h2 : 1 ≤ q1 ∧ q1 ≤ C) : mkB B C (adP Pl p1 q1) := by
  intro p q hp
  rcases hp with hp | ⟨rfl, rfl⟩
  · exact h p q hp
  · exact ⟨h1, h2⟩
theorem lo_cg {Pl Pl' : pQ} {p q : Int} (h : ∀ p q, Pl p q ↔ Pl' p q) (hl : loOf Pl p q) : loOf Pl' p q := ⟨(h _ _).mp hl.1, fun p' q' h' => hl.2 p' q' ((h _ _).mpr h')⟩
theorem hi_cg {Pl Pl' : pQ} {p q : Int} (h : ∀ p q, Pl p q ↔ Pl' p q) (hl : hiOf Pl p q) : hiOf Pl' p q := ⟨(h _ _).mp hl.1, fun p' q' h' => hl.2 p' q' ((h _ _).mpr h')⟩
/-! the class's low and high -/
def rLo (Pl : pQ) (S : zT) (b : Nat) : Prop := ((∀ p q, ¬ Pl p q) ∧ S.2 b 1 = 0) ∨ ∃ p q, loOf Pl p q ∧ S.2 b 0 = jZ p ∧ S.2 b 1 = jZ q
def rHi (Pl : pQ) (S : zT) (b : Nat) : Prop := ((∀ p q, ¬ Pl p q) ∧ S.2 b 1 = 0) ∨ ∃ p q, hiOf Pl p q ∧ S.2 b 0 = jZ p ∧ S.2 b 1 = jZ q
theorem prodB {B C p q : Int} (hB : 0 ≤ B) (hC : 0 ≤ C) (hBC : B * C < 1000000000) (h1 : -B ≤ p ∧ p ≤ B) (h2 : 1 ≤ q ∧ q ≤ C) : -1000000000 < p * q ∧ p * q < 1000000000 := by
  have := mul_bd h1.1 h1.2 (show -C ≤ q by omega) h2.2
  omega
theorem c_lowerTo {B C : Int} {Pl : pQ} {b : Nat} {p1 q1 : Int} {S : zT} (hBC : B * C < 1000000000) (hC0 : 0 ≤ C) (hB0 : 0 ≤ B) (hB : mkB B C Pl) (h1 : -B ≤ p1 ∧ p1 ≤ B) (h2 : 1 ≤ q1 ∧ q1 ≤ C) (hb1 : B < 1000000000) (hc1 : C < 1000000000) (h : rLo Pl S b) : ∃ S', fX1_lowerTo b (jZ p1) (jZ q1) S = some S' ∧ rLo (adP Pl p1 q1) S' b := by
  have wr : fX1_lowerTo_25 b (jZ p1) (jZ q1) S = some (zsl (zsl S b 0 (jZ p1)) b 1 (jZ q1)) := rfl
  have w0 : (zsl (zsl S b 0 (jZ p1)) b 1 (jZ q1)).2 b 0 = jZ p1 := by simp [zsl_app]
  have w1 : (zsl (zsl S b 0 (jZ p1)) b 1 (jZ q1)).2 b 1 = jZ q1 := by simp [zsl_app]
  unfold fX1_lowerTo
  rcases h with ⟨g1, g2⟩ | ⟨p, q, g1, g2, g3⟩
  · rw [g2, if_pos ((cmp_eq0 _ _).mpr rfl)]
    exact ⟨_, wr, Or.inr ⟨p1, q1, lo_first g1, w0, w1⟩⟩
  · obtain ⟨bp, bq⟩ := hB p q g1.1
    have m1 := prodB hB0 hC0 hBC bp h2
    have m2 := prodB hB0 hC0 hBC h1 bq
    rw [g3, g2, if_neg (by rw [cmp_eq0, show (0 : Int64) = jZ 0 from rfl, jZ_eq (by omega) (by omega) (by omega) (by omega)]; omega), jZ_mul, jZ_mul]
    by_cases c : p * q1 ≤ p1 * q
    · rw [if_pos (by rw [cmp_le0, jZ_le (by omega) (by omega) (by omega) (by omega)]; exact c)]
      exact ⟨S, rfl, Or.inr ⟨p, q, lo_keep g1 c, g2, g3⟩⟩
    · rw [if_neg (by rw [cmp_le0, jZ_le (by omega) (by omega) (by omega) (by omega)]; exact c)]
      exact ⟨_, wr, Or.inr ⟨p1, q1, lo_new hB g1 (by omega) (by omega), w0, w1⟩⟩
theorem c_raiseTo {B C : Int} {Pl : pQ} {b : Nat} {p1 q1 : Int} {S : zT} (hBC : B * C < 1000000000) (hC0 : 0 ≤ C) (hB0 : 0 ≤ B) (hB : mkB B C Pl) (h1 : -B ≤ p1 ∧ p1 ≤ B) (h2 : 1 ≤ q1 ∧ q1 ≤ C) (hb1 : B < 1000000000) (hc1 : C < 1000000000) (h : rHi Pl S b) : ∃ S', fX1_raiseTo b (jZ p1) (jZ q1) S = some S' ∧ rHi (adP Pl p1 q1) S' b := by
  have wr : fX1_raiseTo_25 b (jZ p1) (jZ q1) S = some (zsl (zsl S b 0 (jZ p1)) b 1 (jZ q1)) := rfl
  have w0 : (zsl (zsl S b 0 (jZ p1)) b 1 (jZ q1)).2 b 0 = jZ p1 := by simp [zsl_app]
  have w1 : (zsl (zsl S b 0 (jZ p1)) b 1 (jZ q1)).2 b 1 = jZ q1 := by simp [zsl_app]
  unfold fX1_raiseTo
  rcases h with ⟨g1, g2⟩ | ⟨p, q, g1, g2, g3⟩
  · rw [g2, if_pos ((cmp_eq0 _ _).mpr rfl)]
    exact ⟨_, wr, Or.inr ⟨p1, q1, hi_first g1, w0, w1⟩⟩
  · obtain ⟨bp, bq⟩ := hB p q g1.1
    have m1 := prodB hB0 hC0 hBC bp h2
    have m2 := prodB hB0 hC0 hBC h1 bq
    rw [g3, g2, if_neg (by rw [cmp_eq0, show (0 : Int64) = jZ 0 from rfl, jZ_eq (by omega) (by omega) (by omega) (by omega)]; omega), jZ_mul, jZ_mul]
    by_cases c : p1 * q ≤ p * q1
    · rw [if_pos (by rw [lg_cmp_ge, jZ_le (by omega) (by omega) (by omega) (by omega)]; exact c)]
      exact ⟨S, rfl, Or.inr ⟨p, q, hi_keep g1 c, g2, g3⟩⟩
    · rw [if_neg (by rw [lg_cmp_ge, jZ_le (by omega) (by omega) (by omega) (by omega)]; exact c)]
      exact ⟨_, wr, Or.inr ⟨p1, q1, hi_new hB g1 (by omega) (by omega), w0, w1⟩⟩
/-! the model's -/
def mOK (Pl : pQ) (S : zT) : Prop := ((∀ p q, ¬ Pl p q) ∧ S.1 101 8 = 0) ∨ (S.1 101 8 = 1 ∧ (∃ p q, loOf Pl p q ∧ S.1 101 9 = iZ p ∧ S.1 101 10 = iZ q) ∧ ∃ p q, hiOf Pl p q ∧ S.1 101 11 = iZ p ∧ S.1 101 12 = iZ q)
theorem m_place {B C : Int} {Pl : pQ} {p1 q1 : Int} {S : zT} (hBC : B * C < 1000000000) (hC0 : 0 ≤ C) (hB0 : 0 ≤ B) (hB : mkB B C Pl) (h1 : -B ≤ p1 ∧ p1 ≤ B) (h2 : 1 ≤ q1 ∧ q1 ≤ C) (h : mOK Pl S) : ∃ S', fX8_place (iZ p1) (iZ q1) S = some S' ∧ mOK (adP Pl p1 q1) S' := by
  rcases h with ⟨g1, g2⟩ | ⟨g0, ⟨p, q, g1, g2, g3⟩, p', q', g4, g5, g6⟩
  · refine ⟨zsi (zsi (zsi (zsi (zsi S 101 9 (iZ p1)) 101 10 (iZ q1)) 101 11 (iZ p1)) 101 12 (iZ q1)) 101 8 1, ?_, Or.inr ⟨by simp [zsi_app], ⟨p1, q1, lo_first g1, by simp [zsi_app], by simp [zsi_app]⟩, p1, q1, hi_first g1, by simp [zsi_app], by simp [zsi_app]⟩⟩
    unfold fX8_place fX8_place_22 fX8_place_32 fX8_place_54 fX8_place_64
    rw [if_pos g2]
    simp only [zlet_s]
    rw [if_pos (by simp [zsi_app, g2])]
  · obtain ⟨bp, bq⟩ := hB p q g1.1
    obtain ⟨bp', bq'⟩ := hB p' q' g4.1
    have m1 := prodB hB0 hC0 hBC bp h2
    have m2 := prodB hB0 hC0 hBC h1 bq
    have m3 := prodB hB0 hC0 hBC bp' h2
    have m4 := prodB hB0 hC0 hBC h1 bq'
    have hi32 : ∀ S0 : zT, S0.1 101 8 = 1 → S0.1 101 11 = iZ p' → S0.1 101 12 = iZ q' → ∃ S', fX8_place_32 (iZ p1) (iZ q1) S0 = some S' ∧ S'.1 101 8 = 1 ∧ S'.1 101 9 = S0.1 101 9 ∧ S'.1 101 10 = S0.1 101 10 ∧ ∃ p q, hiOf (adP Pl p1 q1) p q ∧ S'.1 101 11 = iZ p ∧ S'.1 101 12 = iZ q := by
      intro S0 a8 a11 a12
      unfold fX8_place_32 fX8_place_54 fX8_place_64
      rw [a8, if_neg one_ne, a11, a12, iZ_mul, iZ_mul]
      by_cases c : p1 * q' ≤ p' * q1
      · rw [if_pos (by rw [iZ_le (by omega) (by omega) (by omega) (by omega)]; exact c)]
        exact ⟨_, rfl, by simp [zsi_app], by simp [zsi_app], by simp [zsi_app], p', q', hi_keep g4 c, by simp [zsi_app, a11], by simp [zsi_app, a12]⟩
      · rw [if_neg (by rw [iZ_le (by omega) (by omega) (by omega) (by omega)]; exact c)]
        exact ⟨_, rfl, by simp [zsi_app], by simp [zsi_app], by simp [zsi_app], p1, q1, hi_new hB g4 (by omega) (by omega), by simp [zsi_app], by simp [zsi_app]⟩
    unfold fX8_place fX8_place_22
    rw [g0, if_neg one_ne, g2, g3, iZ_mul, iZ_mul]
    by_cases c : p * q1 ≤ p1 * q
    · rw [if_pos (by rw [iZ_le (by omega) (by omega) (by omega) (by omega)]; exact c)]
      obtain ⟨S', e1, e2, e3, e4, e5⟩ := hi32 S g0 g5 g6
      exact ⟨S', e1, Or.inr ⟨e2, ⟨p, q, lo_keep g1 c, by rw [e3, g2], by rw [e4, g3]⟩, e5⟩⟩
    · rw [if_neg (by rw [iZ_le (by omega) (by omega) (by omega) (by omega)]; exact c)]
      obtain ⟨S', e1, e2, e3, e4, e5⟩ := hi32 (zsi (zsi S 101 9 (iZ p1)) 101 10 (iZ q1)) (by simp [zsi_app, g0]) (by simp [zsi_app, g5]) (by simp [zsi_app, g6])
      exact ⟨S', e1, Or.inr ⟨e2, ⟨p1, q1, lo_new hB g1 (by omega) (by omega), by rw [e3]; simp [zsi_app], by rw [e4]; simp [zsi_app]⟩, e5⟩⟩
