/-! Euclid -/
def eu_r : Nat → Nat → Nat → Option Nat
  | 0, _, _ => none
  | m + 1, x, y => if y = 0 then some x else eu_r m y (x % y)
theorem eu_gcd : ∀ (k m x y : Nat), y < 2 ^ k → 2 * k + 1 ≤ m → eu_r m x y = some (Nat.gcd x y) := by
  intro k
  induction k with
  | zero =>
    intro m x y h1 h2
    obtain ⟨m, rfl⟩ : ∃ g, m = g + 1 := ⟨m - 1, by omega⟩
    have : y = 0 := by omega
    subst this
    unfold eu_r; rw [if_pos rfl, Nat.gcd_zero_right]
  | succ k ih =>
    intro m x y h1 h2
    obtain ⟨m, rfl⟩ : ∃ g, m = g + 2 := ⟨m - 2, by omega⟩
    unfold eu_r
    by_cases c : y = 0
    · subst c; rw [if_pos rfl, Nat.gcd_zero_right]
    · rw [if_neg c]
      unfold eu_r
      have g1 : Nat.gcd x y = Nat.gcd y (x % y) := by rw [Nat.gcd_comm x y, Nat.gcd_rec y x, Nat.gcd_comm]
      by_cases c2 : x % y = 0
      · rw [if_pos c2, g1, c2, Nat.gcd_zero_right]
      · rw [if_neg c2]
        have r1 : x % y < y := Nat.mod_lt _ (by omega)
        have r2 : y % (x % y) < x % y := Nat.mod_lt _ (by omega)
        have r3 : y % (x % y) + x % y ≤ y := by
          have := Nat.div_add_mod y (x % y)
          have h3 : 1 ≤ y / (x % y) := (Nat.one_le_div_iff (by omega)).mpr (by omega)
          have : x % y * 1 ≤ x % y * (y / (x % y)) := Nat.mul_le_mul_left _ h3
          omega
        have g2 : Nat.gcd y (x % y) = Nat.gcd (x % y) (y % (x % y)) := by rw [Nat.gcd_comm y, Nat.gcd_rec (x % y) y, Nat.gcd_comm]
        rw [g1, g2]
        exact ih m _ _ (by rw [Nat.pow_succ] at h1; omega) (by omega)
theorem rd_nat {A B A' B' : Nat} (hB : 0 < B) (hB' : 0 < B') (h : A * B' = A' * B) : A / Nat.gcd A B = A' / Nat.gcd A' B' ∧ B / Nat.gcd A B = B' / Nat.gcd A' B' := by
  have g0 : 0 < Nat.gcd A B := Nat.gcd_pos_of_pos_right _ hB
  have g0' : 0 < Nat.gcd A' B' := Nat.gcd_pos_of_pos_right _ hB'
  obtain ⟨x, y, co, e1, e2⟩ := Nat.exists_coprime A B
  obtain ⟨x', y', co', e1', e2'⟩ := Nat.exists_coprime A' B'
  generalize Nat.gcd A B = g at *
  generalize Nat.gcd A' B' = g' at *
  subst e1 e2 e1' e2'
  have hy : 0 < y := Nat.pos_of_mul_pos_right hB
  have hy' : 0 < y' := Nat.pos_of_mul_pos_right hB'
  rw [Nat.mul_div_cancel _ g0, Nat.mul_div_cancel _ g0, Nat.mul_div_cancel _ g0', Nat.mul_div_cancel _ g0']
  have hxy : x * y' = x' * y := by
    have : (x * y') * (g * g') = (x' * y) * (g * g') := by
      calc (x * y') * (g * g') = x * g * (y' * g') := by ac_rfl
        _ = x' * g' * (y * g) := h
        _ = (x' * y) * (g * g') := by ac_rfl
    exact Nat.eq_of_mul_eq_mul_right (Nat.mul_pos g0 g0') this
  have d1 : y ∣ y' := co.symm.dvd_of_dvd_mul_left ⟨x', by rw [hxy, Nat.mul_comm]⟩
  have d2 : y' ∣ y := co'.symm.dvd_of_dvd_mul_left ⟨x, by rw [← hxy, Nat.mul_comm]⟩
  have ey : y = y' := Nat.dvd_antisymm d1 d2
  subst ey
  exact ⟨Nat.eq_of_mul_eq_mul_right hy hxy, rfl⟩
def gdI (a b : Int) : Nat := Nat.gcd a.natAbs b.natAbs
def rdN (a b : Int) : Int := a.tdiv (gdI a b : Int)
def rdD (a b : Int) : Int := b.tdiv (gdI a b : Int)
theorem td_abs (a : Int) (g : Nat) : (0 ≤ a → a.tdiv (g : Int) = ((a.natAbs / g : Nat) : Int)) ∧ (a ≤ 0 → a.tdiv (g : Int) = -((a.natAbs / g : Nat) : Int)) := by
  constructor
  · intro h
    obtain ⟨n, rfl⟩ := Int.eq_ofNat_of_zero_le h
    rw [← Int.ofNat_tdiv]; rfl
  · intro h
    obtain ⟨n, hn⟩ := Int.eq_ofNat_of_zero_le (show 0 ≤ -a by omega)
    have : a = -(n : Int) := by omega
    subst this
    rw [Int.neg_tdiv, ← Int.ofNat_tdiv, Int.natAbs_neg]; rfl
theorem rd_eq {a b a' b' : Int} (hb : 0 < b) (hb' : 0 < b') (h : a * b' = a' * b) : rdN a b = rdN a' b' ∧ rdD a b = rdD a' b' := by
  have hn : a.natAbs * b'.natAbs = a'.natAbs * b.natAbs := by rw [← Int.natAbs_mul, ← Int.natAbs_mul, h]
  obtain ⟨e1, e2⟩ := rd_nat (show 0 < b.natAbs by omega) (show 0 < b'.natAbs by omega) hn
  unfold rdN rdD gdI
  refine ⟨?_, ?_⟩
  · by_cases c : 0 ≤ a
    · have c' : 0 ≤ a' := by
        rcases Int.lt_or_le a' 0 with g | g
        · have := Int.mul_neg_of_neg_of_pos g hb
          have := Int.mul_nonneg c (show 0 ≤ b' by omega)
          omega
        · exact g
      rw [(td_abs a _).1 c, (td_abs a' _).1 c', e1]
    · have c' : a' ≤ 0 := by
        rcases Int.lt_or_le 0 a' with g | g
        · have := Int.mul_pos g hb
          have := Int.mul_neg_of_neg_of_pos (show a < 0 by omega) hb'
          omega
        · exact g
      rw [(td_abs a _).2 (by omega), (td_abs a' _).2 c', e1]
  · rw [(td_abs b _).1 (by omega), (td_abs b' _).1 (by omega), e2]
/-! on longs -/
theorem jZ_div {a b : Int} (ha : -1000000000 ≤ a ∧ a ≤ 1000000000) (hb : 0 < b ∧ b ≤ 1000000000) : jZ a / jZ b = jZ (a.tdiv b) := by
  have tb := jZ_toInt (z := b) (by omega) (by omega)
  have ta := jZ_toInt (z := a) (by omega) (by omega)
  have hd : -1000000000 ≤ a.tdiv b ∧ a.tdiv b ≤ 1000000000 := by
    obtain ⟨n, rfl⟩ := Int.eq_ofNat_of_zero_le (show 0 ≤ b by omega)
    have h1 := td_abs a n
    have h2 := Nat.div_le_self a.natAbs n
    generalize a.natAbs / n = z at h1 h2
    by_cases c : 0 ≤ a
    · rw [h1.1 c]; clear h1; omega
    · rw [h1.2 (by omega)]; clear h1; omega
  rw [← Int64.toInt_inj, Int64.toInt_div_of_ne_right _ _ (by
    intro e
    have := congrArg Int64.toInt e
    rw [tb, show (-1 : Int64).toInt = -1 by decide] at this
    omega), ta, tb, jZ_toInt (by omega) (by omega)]
theorem jZ_rem {x y : Nat} (hx : x ≤ 1000000000) (hy : 0 < y ∧ y ≤ 1000000000) : jZ (x : Int) - jZ (x : Int) / jZ (y : Int) * jZ (y : Int) = jZ ((x % y : Nat) : Int) := by
  rw [jZ_div (by omega) (by omega), jZ_mul, jZ_sub, ← Int.ofNat_tdiv]
  have := Nat.div_add_mod x y
  rw [show (x : Int) - ((x / y : Nat) : Int) * (y : Int) = ((x % y : Nat) : Int) by
    have h : ((x / y : Nat) : Int) * (y : Int) = ((y * (x / y) : Nat) : Int) := by rw [Nat.mul_comm]; rfl
    omega]
theorem jZ_ne0 {y : Nat} (h : 0 < y ∧ y ≤ 1000000000) : ¬ jZ (y : Int) = 0 := by
  rw [show (0 : Int64) = jZ 0 from rfl, jZ_eq (by omega) (by omega) (by omega) (by omega)]; omega
theorem c_short16 {b : Nat} {S : zT} : ∀ (m fu x y c g : Nat), m ≤ fu → c + m ≤ 100 → x ≤ 1000000000 → y ≤ 1000000000 → eu_r m x y = some g → zfix (fun _ _ _ _ => none) (fX1_shorten_16 b) fu (jZ (x : Int)) (jZ (y : Int)) (nI c) S = fX1_shorten_45 b (jZ (g : Int)) S := by
  intro m
  induction m with
  | zero => intro fu x y c g h1 h2 hx hy h; cases h
  | succ m ih =>
    intro fu x y c g h1 h2 hx hy h
    obtain ⟨fu, rfl⟩ : ∃ g, fu = g + 1 := ⟨fu - 1, by omega⟩
    have h100 : ¬ (100 : Int32) ≤ nI c := show ¬ nI 100 ≤ nI c from nI_ge (by omega) (by omega)
    unfold eu_r at h
    rw [zfix_s]; unfold fX1_shorten_16
    rw [if_neg h100]
    by_cases c0 : y = 0
    · rw [if_pos c0] at h
      cases h
      subst c0
      rw [if_pos ((cmp_eq0 _ _).mpr (show jZ ((0 : Nat) : Int) = 0 from rfl))]
    · rw [if_neg c0] at h
      have hne := jZ_ne0 (y := y) (by omega)
      have hm : x % y ≤ 1000000000 := by have := Nat.mod_le x y; omega
      rw [if_neg (fun e => hne ((cmp_eq0 _ _).mp e)), if_pos hne, jZ_rem hx (by omega), nI_1]
      exact ih fu y (x % y) (c + 1) g (by omega) (by omega) hy hm h
theorem gd_bd {a b : Int} (hb : 0 < b ∧ b ≤ 1000000000) : 0 < gdI a b ∧ (gdI a b : Int) ≤ 1000000000 := by
  have h1 : 0 < gdI a b := Nat.gcd_pos_of_pos_right _ (by omega)
  have h2 : gdI a b ≤ b.natAbs := Nat.le_of_dvd (by omega) (Nat.gcd_dvd_right _ _)
  omega
theorem c_shorten {b : Nat} {S : zT} {p q : Int} (hp : -100000 ≤ p ∧ p ≤ 100000) (hq : 0 < q ∧ q ≤ 100000) (h0 : S.2 b 0 = jZ p) (h1 : S.2 b 1 = jZ q) : ∃ S', fX1_shorten b S = some S' ∧ S'.2 b 0 = jZ (rdN p q) ∧ S'.2 b 1 = jZ (rdD p q) := by
  have hg := gd_bd (a := p) (b := q) (by omega)
  have ab : (if 0 < jZ p then jZ p else -jZ p) = jZ (p.natAbs : Int) := by
    by_cases c : 0 < p
    · rw [if_pos (by rw [show (0 : Int64) = jZ 0 from rfl, jZ_lt (by omega) (by omega) (by omega) (by omega)]; exact c), show (p.natAbs : Int) = p by omega]
    · rw [if_neg (by rw [show (0 : Int64) = jZ 0 from rfl, jZ_lt (by omega) (by omega) (by omega) (by omega)]; exact c), jZ_neg, show (p.natAbs : Int) = -p by omega]
  have qq : jZ q = jZ (q.natAbs : Int) := by rw [show (q.natAbs : Int) = q by omega]
  have e := c_short16 (b := b) (S := S) 41 zF q.natAbs p.natAbs 0 (gdI p q) (by unfold zF; omega) (by omega) (by omega) (by omega) (by
    rw [eu_gcd 20 41 q.natAbs p.natAbs (by omega) (by omega)]; unfold gdI; rw [Nat.gcd_comm])
  have hne := jZ_ne0 (y := gdI p q) (by omega)
  refine ⟨zsl (zsl S b 0 (jZ (rdN p q))) b 1 (jZ (rdD p q)), ?_, by simp [zsl_app], by simp [zsl_app]⟩
  unfold fX1_shorten
  rw [h0, ab, h1, qq]
  refine e.trans ?_
  unfold fX1_shorten_45
  rw [if_neg (by rw [cmp_le0, show (0 : Int64) = jZ 0 from rfl, jZ_le (by omega) (by omega) (by omega) (by omega)]; omega), if_pos hne, zlet_s, if_pos hne, zlet_s, h0, jZ_div (by omega) (by omega), show (zsl S b 0 (jZ (p.tdiv (gdI p q : Int)))).2 b 1 = S.2 b 1 by simp [zsl_app], h1, jZ_div (by omega) (by omega)]
  rfl
theorem m_common {S : zT} {p q : Int} (hp : -100000 ≤ p ∧ p ≤ 100000) (hq : 0 < q ∧ q ≤ 100000) : fX8_common (jZ p) (jZ q) S = some (jZ (gdI p q : Int), S) := by
  have key : ∀ (m fu x y g : Nat), m ≤ fu → x ≤ 1000000000 → y ≤ 1000000000 → eu_r m x y = some g → zfix (fun _ _ _ => none) fX8_common_17 fu (jZ (x : Int)) (jZ (y : Int)) S = some (jZ (g : Int), S) := by
    intro m
    induction m with
    | zero => intro fu x y g h1 hx hy h; cases h
    | succ m ih =>
      intro fu x y g h1 hx hy h
      obtain ⟨fu, rfl⟩ : ∃ g, fu = g + 1 := ⟨fu - 1, by omega⟩
      unfold eu_r at h
      rw [zfix_s]; unfold fX8_common_17
      by_cases c0 : y = 0
      · rw [if_pos c0] at h
        cases h
        subst c0
        rw [if_pos ((cmp_le0 _ _).mpr (by rw [Int64.le_iff_toInt_le]; exact Int.le_refl _))]
      · rw [if_neg c0] at h
        have hne := jZ_ne0 (y := y) (by omega)
        have hm : x % y ≤ 1000000000 := by have := Nat.mod_le x y; omega
        rw [if_neg (by rw [cmp_le0, show (0 : Int64) = jZ 0 from rfl, jZ_le (by omega) (by omega) (by omega) (by omega)]; omega), if_pos hne, jZ_rem hx (by omega)]
        exact ih fu y (x % y) g (by omega) hy hm h
  have qq : jZ q = jZ (q.natAbs : Int) := by rw [show (q.natAbs : Int) = q by omega]
  have e := key 41 zF p.natAbs q.natAbs (gdI p q) (by unfold zF; omega) (by omega) (by omega) (eu_gcd 20 41 p.natAbs q.natAbs (by omega) (by omega))
  unfold fX8_common fX8_common_12
  by_cases c : 0 ≤ p
  · rw [if_pos (by rw [lg_cmp_ge, show (0 : Int64) = jZ 0 from rfl, jZ_le (by omega) (by omega) (by omega) (by omega)]; exact c), qq, show p = (p.natAbs : Int) by omega]
    exact e
  · rw [if_neg (by rw [lg_cmp_ge, show (0 : Int64) = jZ 0 from rfl, jZ_le (by omega) (by omega) (by omega) (by omega)]; exact c), qq, jZ_neg, show -p = (p.natAbs : Int) by omega]
    exact e
theorem m_share {S : zT} {p q : Int} (hp : -100000 ≤ p ∧ p ≤ 100000) (hq : 0 < q ∧ q ≤ 100000) : ∃ S', fX8_share (jZ p) (jZ q) S = some S' ∧ S'.2 101 13 = jZ (rdN p q) ∧ S'.2 101 14 = jZ (rdD p q) := by
  have hg := gd_bd (a := p) (b := q) (by omega)
  have hne := jZ_ne0 (y := gdI p q) (by omega)
  refine ⟨zsl (zsl S 101 13 (jZ (rdN p q))) 101 14 (jZ (rdD p q)), ?_, by simp [zsl_app], by simp [zsl_app]⟩
  unfold fX8_share
  rw [m_common hp hq, zbl_s, if_pos hne, zlet_s, if_pos hne, zlet_s, jZ_div (by omega) (by omega), jZ_div (by omega) (by omega)]
  rfl
