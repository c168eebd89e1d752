/-! a row of sets told by four words -/
theorem tn_toInt (x : Int32) : x.toInt = (x.toBitVec.toNat : Int) ∨ x.toInt = (x.toBitVec.toNat : Int) - 4294967296 := by
  have h : x.toInt = x.toBitVec.toInt := rfl
  rw [h, BitVec.toInt_eq_toNat_cond]
  split
  · exact Or.inl rfl
  · exact Or.inr rfl
theorem shr_low (x sh : Int32) (k : Nat) (hk : k = 0 ∨ k = 8 ∨ k = 16 ∨ k = 24) (hs : ((sh &&& 31).toBitVec.smod 32).toNat = k) : (zshr x sh).toBitVec.toNat % 256 = x.toBitVec.toNat / 2 ^ k % 256 := by
  have h1 := pk_shr x (sh &&& 31) k hs
  have h2 := tn_toInt (x >>> (sh &&& 31))
  have h3 := tn_toInt x
  rw [h1, Int.shiftRight_eq_div_pow] at h2
  show (x >>> (sh &&& 31)).toBitVec.toNat % 256 = _
  generalize (x >>> (sh &&& 31)).toBitVec.toNat = Z at h2 ⊢
  have hx : x.toBitVec.toNat < 4294967296 := x.toBitVec.isLt
  generalize x.toBitVec.toNat = X at h3 hx ⊢
  generalize x.toInt = q at h2 h3
  rcases hk with rfl | rfl | rfl | rfl
  · have e1 : ((2 ^ 0 : Nat) : Int) = 1 := rfl
    rw [e1, Int.ediv_one] at h2
    rw [Nat.pow_zero, Nat.div_one]
    omega
  · simp only [show (2 : Nat) ^ 8 = 256 from rfl] at h2 ⊢
    omega
  · simp only [show (2 : Nat) ^ 16 = 65536 from rfl] at h2 ⊢
    omega
  · simp only [show (2 : Nat) ^ 24 = 16777216 from rfl] at h2 ⊢
    omega
def gS_w (x : Int32) (K t : Nat) : Int32 := nI (x.toBitVec.toNat / 2 ^ (8 * (t % 4)) % 2 ^ K)
theorem g_sh1 : ∀ t, t < 16 → 8 * (nI t &&& 3) = nI (8 * (t % 4)) := by decide +kernel
theorem g_sh2 : ∀ t, t < 16 → 8 * (nI t - nI t / 4 * 4) = nI (8 * (t % 4)) := by decide +kernel
theorem g_sh3 : ∀ j, j < 4 → (((nI (8 * j)).toUInt32 &&& Int32.toUInt32 31).toBitVec % 32).toNat = 8 * j := by decide +kernel
theorem g_sh4 : ∀ j, j < 4 → ((nI (8 * j) &&& 31).toBitVec.smod 32).toNat = 8 * j := by decide +kernel
theorem gS_c (x : Int32) {K t : Nat} (hK : K ≤ 8) (ht : t < 16) : (zushr x (8 * (nI t &&& 3))) &&& nI (2 ^ K - 1) = gS_w x K t := by
  have hp := pow_le256 hK
  rw [g_sh1 t ht, pk_and _ K (pk_tn (by omega))]
  unfold zushr gS_w
  rw [pk_ushr x (nI (8 * (t % 4))) (8 * (t % 4)) (g_sh3 (t % 4) (by omega))]
theorem gS_m (x : Int32) {K t : Nat} (hK : K ≤ 8) (ht : t < 16) : ((zshr x (8 * (nI t - nI t / 4 * 4))) &&& 255) &&& nI (2 ^ K - 1) = gS_w x K t := by
  have hp := pow_le256 hK
  rw [g_sh2 t ht, pk_and _ 8 (m := 255) (by decide), pk_andN (by omega) K (pk_tn (by omega))]
  unfold gS_w
  rw [show (2 : Nat) ^ 8 = 256 from rfl, shr_low x (nI (8 * (t % 4))) (8 * (t % 4)) (by omega) (g_sh4 (t % 4) (by omega)), Nat.mod_mod_of_dvd]
  exact Nat.pow_dvd_pow 2 hK (m := K) (n := 8)
theorem gS_lt (x : Int32) (K t : Nat) : ∃ s : Nat, s < 2 ^ K ∧ gS_w x K t = nI s := ⟨_, Nat.mod_lt _ (Nat.two_pow_pos K), rfl⟩
def gW_w (a b c d : Int32) (t : Nat) : Int32 := if t < 4 then a else if t < 8 then b else if t < 12 then c else d
theorem c_gait43 {K N : Nat} (hK : K ≤ 8) (hN : N ≤ 16) (a b c d : Int32) : ∀ (e t f : Nat) (S : zT), t + e = N → e < f → S.1 1 0 = nI K → ∃ S', zfix (fun _ _ _ _ _ _ _ => none) fX7_gait_43 f (nI N) a b c d (nI t) S = some (nI N, S') ∧ zFr [7] [] S S' ∧ ∀ m, S'.1 7 m = if t ≤ m ∧ m < N then gS_w (gW_w a b c d m) K m else S.1 7 m := by
  intro e
  induction e with
  | zero =>
    intro t f S h1 h2 h3
    obtain ⟨f, rfl⟩ : ∃ g, f = g + 1 := ⟨f - 1, by omega⟩
    refine ⟨S, ?_, zFr_rf _ _ _, fun m => by rw [if_neg (by omega)]⟩
    rw [zfix_s]; unfold fX7_gait_43
    rw [if_pos (nI_le (by omega) (by omega))]
  | succ e ih =>
    intro t f S h1 h2 h3
    obtain ⟨f, rfl⟩ : ∃ g, f = g + 1 := ⟨f - 1, by omega⟩
    obtain ⟨S', e1, e0, e2⟩ := ih (t + 1) f (zsi S 7 t (gS_w (gW_w a b c d t) K t)) (by omega) (by omega) (by rw [zsi_n _ _ (by omega), h3])
    have body : ∀ v, v = gW_w a b c d t → fX7_gait_85 (zfix (fun _ _ _ _ _ _ _ => none) fX7_gait_43 f) (nI N) a b c d (nI t) v S = some (nI N, S') := by
      intro v hv
      unfold fX7_gait_85 fX6_fullSet
      rw [h3, ini6 K (by omega), zbi_s, gS_c v hK (by omega), put_in (by omega) (by omega), zbv_s, nI_1, hv]
      exact e1
    refine ⟨S', ?_, zFr_trans (zFr_si (by simp)) e0, fun m => ?_⟩
    · rw [zfix_s]; unfold fX7_gait_43
      rw [if_neg (nI_ge (by omega) (by omega))]
      by_cases c1 : t < 4
      · rw [if_neg (show ¬ (4 : Int32) ≤ nI t from nI_ge (b := 4) c1 (by omega))]
        exact body _ (by simp [gW_w, c1])
      rw [if_pos (show (4 : Int32) ≤ nI t from nI_le (a := 4) (by omega) (by omega))]
      by_cases c2 : t < 8
      · rw [if_neg (show ¬ (8 : Int32) ≤ nI t from nI_ge (b := 8) c2 (by omega))]
        exact body _ (by simp [gW_w, c1, c2])
      rw [if_pos (show (8 : Int32) ≤ nI t from nI_le (a := 8) (by omega) (by omega))]
      by_cases c3 : t < 12
      · rw [if_neg (show ¬ (12 : Int32) ≤ nI t from nI_ge (b := 12) c3 (by omega))]
        exact body _ (by simp [gW_w, c1, c2, c3])
      rw [if_pos (show (12 : Int32) ≤ nI t from nI_le (a := 12) (by omega) (by omega))]
      exact body _ (by simp [gW_w, c1, c2, c3])
    · rw [e2 m, zsi_k]
      unfold upd
      by_cases q1 : t + 1 ≤ m ∧ m < N
      · rw [if_pos q1, if_pos (show t ≤ m ∧ m < N by omega)]
      · rw [if_neg q1]
        by_cases q2 : m = t
        · subst q2; rw [if_pos rfl, if_pos (show m ≤ m ∧ m < N by omega)]
        · rw [if_neg q2, if_neg (show ¬ (t ≤ m ∧ m < N) by omega)]
theorem m_byteOf {t : Nat} (ht : t < 16) (a b c d : Int32) (S : zT) : fX8_byteOf (nI t) a b c d S = some ((zshr (gW_w a b c d t) (8 * (nI t - nI t / 4 * 4))) &&& 255, S) := by
  unfold fX8_byteOf fX8_byteOf_32 gW_w
  by_cases c1 : t < 4
  · rw [if_neg (show ¬ (4 : Int32) ≤ nI t from nI_ge (b := 4) c1 (by omega)), if_pos c1]
  rw [if_pos (show (4 : Int32) ≤ nI t from nI_le (a := 4) (by omega) (by omega)), if_neg c1]
  by_cases c2 : t < 8
  · rw [if_neg (show ¬ (8 : Int32) ≤ nI t from nI_ge (b := 8) c2 (by omega)), if_pos c2]
  rw [if_pos (show (8 : Int32) ≤ nI t from nI_le (a := 8) (by omega) (by omega)), if_neg c2]
  by_cases c3 : t < 12
  · rw [if_neg (show ¬ (12 : Int32) ≤ nI t from nI_ge (b := 12) c3 (by omega)), if_pos c3]
  rw [if_pos (show (12 : Int32) ≤ nI t from nI_le (a := 12) (by omega) (by omega)), if_neg c3]
theorem m_gait46 {K N : Nat} (hK : K ≤ 8) (hN : N ≤ 16) (a b c d : Int32) : ∀ (e t f : Nat) (S : zT), t + e = 16 → e < f → S.1 102 0 = nI K → ∃ S', zfix (fun _ _ _ _ _ _ _ => none) fX8_gait_46 f (nI N) a b c d (nI t) S = some (nI N, S') ∧ zFr [102] [] S S' ∧ ∀ m, S'.1 102 m = if 23 + t ≤ m ∧ m < 39 then (if m - 23 < N then gS_w (gW_w a b c d (m - 23)) K (m - 23) else 0) else S.1 102 m := by
  intro e
  induction e with
  | zero =>
    intro t f S h1 h2 h3
    obtain ⟨f, rfl⟩ : ∃ g, f = g + 1 := ⟨f - 1, by omega⟩
    refine ⟨S, ?_, zFr_rf _ _ _, fun m => by rw [if_neg (by omega)]⟩
    rw [zfix_s]; unfold fX8_gait_46
    rw [if_pos (show (16 : Int32) ≤ nI t from nI_le (a := 16) (by omega) (by omega))]
  | succ e ih =>
    intro t f S h1 h2 h3
    obtain ⟨f, rfl⟩ : ∃ g, f = g + 1 := ⟨f - 1, by omega⟩
    obtain ⟨v, hv⟩ : ∃ v, v = if t < N then gS_w (gW_w a b c d t) K t else (0 : Int32) := ⟨_, rfl⟩
    obtain ⟨S', e1, e0, e2⟩ := ih (t + 1) f (zsi S 102 (23 + t) v) (by omega) (by omega) (by rw [zsi_k, pk_un (by omega), h3])
    have body : fX8_gait_96 (zfix (fun _ _ _ _ _ _ _ => none) fX8_gait_46 f) (nI N) a b c d (nI t) v (nI (23 + t)) S = some (nI N, S') := by
      unfold fX8_gait_96
      rw [if_pos (gin (by omega) (by omega)), nI_clamp (by omega), zlet_s, nI_1]
      exact e1
    refine ⟨S', ?_, zFr_trans (zFr_si (by simp)) e0, fun m => ?_⟩
    · rw [zfix_s]; unfold fX8_gait_46
      rw [if_neg (show ¬ (16 : Int32) ≤ nI t from nI_ge (b := 16) (by omega) (by omega)), show (23 : Int32) + nI t = nI (23 + t) from nI_add 23 t]
      by_cases c1 : t < N
      · rw [if_neg (nI_ge c1 (by omega)), m_byteOf (by omega), zbi_s, h3, ini6 K (by omega), gS_m _ hK (by omega)]
        rw [if_pos c1] at hv
        rw [← hv]; exact body
      · rw [if_pos (nI_le (by omega) (by omega))]
        rw [if_neg c1] at hv
        subst hv; exact body
    · rw [e2 m, zsi_k]
      unfold upd
      by_cases q1 : 23 + (t + 1) ≤ m ∧ m < 39
      · rw [if_pos q1, if_pos (show 23 + t ≤ m ∧ m < 39 by omega)]
      · rw [if_neg q1]
        by_cases q2 : m = 23 + t
        · subst q2; rw [if_pos rfl, if_pos (show 23 + t ≤ 23 + t ∧ 23 + t < 39 by omega), show 23 + t - 23 = t by omega, hv]
        · rw [if_neg q2, if_neg (show ¬ (23 + t ≤ m ∧ m < 39) by omega)]
/-- the row w with other ticks -/
def tk_w (w : Nat → Int32) (N : Nat) (s : Nat → Int32) : Nat → Int32 := fun m => if m = 6 then nI N else if 23 ≤ m ∧ m < 39 then (if m - 23 < N then s (m - 23) else 0) else w m
theorem wf_tk {w : Nat → Int32} {K n N : Nat} {s : Nat → Int32} (hw : wfW w K n) (h1 : 1 ≤ N) (h2 : N ≤ 16) (hs : ∀ t, t < N → ∃ v : Nat, v < 2 ^ K ∧ s t = nI v) : wfW (tk_w w N s) K N := by
  obtain ⟨a, b, c1, c2, c3, c4, c5, d, f1, f2⟩ := hw
  have hK := a.2.2
  have lo : ∀ m, m < 23 → m ≠ 6 → tk_w w N s m = w m := fun m h1 h2 => by unfold tk_w; rw [if_neg h2, if_neg (by omega)]
  refine ⟨by rw [lo 0 (by omega) (by omega)]; exact a, ⟨by unfold tk_w; rw [if_pos rfl], h1, h2⟩, by rw [lo 1 (by omega) (by omega)]; exact c1, by rw [lo 2 (by omega) (by omega)]; exact c2, by rw [lo 3 (by omega) (by omega)]; exact c3, by rw [lo 4 (by omega) (by omega)]; exact c4, by rw [lo 5 (by omega) (by omega)]; exact c5, fun i hi => ?_, fun t ht => ?_, fun t ht h => ?_⟩
  · rw [lo (7 + i) (by omega) (by omega), lo (15 + i) (by omega) (by omega)]; exact d i hi
  · unfold tk_w
    rw [if_neg (by omega), if_pos (by omega), if_pos (by omega), show 23 + t - 23 = t by omega]; exact hs t ht
  · unfold tk_w
    rw [if_neg (by omega)]
    by_cases q : t < 16
    · rw [if_pos (by omega), if_neg (by omega)]
    · rw [if_neg (by omega)]; exact f2 t (by have := b.2.2; omega) h
theorem rC_tk {w : Nat → Int32} {K n N : Nat} {s : Nat → Int32} {S S' : zT} {b : Nat} (hK : K ≤ 8) (hN : N ≤ 16) (hr : rC w K n S b) (h0 : ∀ j, j < 6 → S'.1 b j = S.1 b j) (h6 : S'.1 b 6 = nI N) (h1 : ∀ j, j < K → S'.1 (b + 2) j = S.1 (b + 2) j) (h2 : ∀ j, j < K → S'.1 (b + 4) j = S.1 (b + 4) j) (h3 : ∀ t, t < N → S'.1 (b + 6) t = s t) : rC (tk_w w N s) K N S' b := by
  obtain ⟨⟨a0, a1, a2, a3, a4, a5, a6⟩, b1, b2, b3⟩ := hr
  have lo : ∀ m, m < 23 → m ≠ 6 → tk_w w N s m = w m := fun m h1 h2 => by unfold tk_w; rw [if_neg h2, if_neg (by omega)]
  refine ⟨⟨by rw [h0 0 (by omega), lo 0 (by omega) (by omega)]; exact a0, by rw [h0 1 (by omega), lo 1 (by omega) (by omega)]; exact a1, by rw [h0 2 (by omega), lo 4 (by omega) (by omega)]; exact a2, by rw [h0 3 (by omega), lo 5 (by omega) (by omega)]; exact a3, by rw [h0 4 (by omega), lo 2 (by omega) (by omega)]; exact a4, by rw [h0 5 (by omega), lo 3 (by omega) (by omega)]; exact a5, by rw [h6]; unfold tk_w; rw [if_pos rfl]⟩, fun i hi => ?_, fun i hi => ?_, fun t ht => ?_⟩
  · rw [h1 i hi, lo (7 + i) (by omega) (by omega)]; exact b1 i hi
  · rw [h2 i hi, lo (15 + i) (by omega) (by omega)]; exact b2 i hi
  · rw [h3 t ht]
    unfold tk_w
    rw [if_neg (by omega), if_pos (by omega), if_pos (by omega), show 23 + t - 23 = t by omega]
theorem K_gait : zK_gait zInv := by
  intro a1 a2 a b c d S hI
  obtain ⟨hb, ⟨K, n, hw, hr⟩, hs, hc, hm⟩ := id hI
  have hK := hw.1.2.2
  by_cases q1 : a1 < 0
  · obtain ⟨S2, p⟩ := m_pre hb
    refine ⟨-1, S, S2, ?_, ?_, zInv_no hI p⟩
    · simp [fX7_gait, fX7_isWithin, zbi_s, q1]
    · unfold fX8_gait; rw [zlet_s, p.1, zbv_s, if_pos q1]
  by_cases q2 : 2 < a1
  · obtain ⟨S2, p⟩ := m_pre hb
    refine ⟨-1, S, S2, ?_, ?_, zInv_no hI p⟩
    · simp [fX7_gait, fX7_isWithin, zbi_s, q1, q2]
    · unfold fX8_gait; rw [zlet_s, p.1, zbv_s, if_neg q1, if_pos q2]
  by_cases q3 : a2 < 1
  · obtain ⟨S2, p⟩ := m_pre hb
    refine ⟨-1, S, S2, ?_, ?_, zInv_no hI p⟩
    · simp [fX7_gait, fX7_isWithin, zbi_s, q1, q2, q3]
    · unfold fX8_gait; rw [zlet_s, p.1, zbv_s, if_neg q1, if_neg q2, if_pos q3]
  by_cases q4 : 16 < a2
  · obtain ⟨S2, p⟩ := m_pre hb
    refine ⟨-1, S, S2, ?_, ?_, zInv_no hI p⟩
    · simp [fX7_gait, fX7_isWithin, zbi_s, q1, q2, q3, q4]
    · unfold fX8_gait; rw [zlet_s, p.1, zbv_s, if_neg q1, if_neg q2, if_neg q3, if_neg (by rw [Int32.not_le]; exact q4)]
  obtain ⟨N, n1, n2, rfl⟩ := rng 1 16 (by omega) (by omega) q3 q4
  obtain ⟨Sa, ea, ha, fa⟩ := mutC hc hw hr (S0 := S) (fun _ _ _ => rfl)
  have a10 : (zsi Sa 1 6 (nI N)).1 1 0 = nI K := by rw [zsi_k, pk_un (by omega), fa 1 0 (by omega), hr.1.1, hw.1.1]
  obtain ⟨S1, e1, f0, f1⟩ := c_gait43 hK n2 a b c d N 0 zF (zsi Sa 1 6 (nI N)) (by omega) (by unfold zF; omega) a10
  have eF : fX7_gait a1 (nI N) a b c d S = some (nI N, S1) := by
    simp only [fX7_gait, fX7_isWithin, zbi_s, zbv_s, zlet_s, q1, q2, q3, q4, ea, if_false, if_neg one_ne]
    exact e1
  have g0 : ∀ k j, k ≠ 7 → S1.1 k j = (zsi Sa 1 6 (nI N)).1 k j := fun k j h => (f0 k j (by simp; omega) (by simp)).1
  have g1 : ∀ k j, k ≠ 1 → k ≠ 7 → S1.1 k j = Sa.1 k j := fun k j h h2 => by rw [g0 k j h2, zsi_n _ _ h]
  have h101 : ∀ k j, 101 ≤ k → S1.1 k j = S.1 k j := fun k j h => by rw [g1 k j (by omega) (by omega), fa k j (by omega)]
  obtain ⟨S2, p⟩ := m_pre (S := S1) (by rw [h101 101 4 (by omega)]; exact hb)
  obtain ⟨Sb, eb, hmb⟩ := mutM hm h101 p rfl rfl rfl
  have frb := frX8_keep eb
  have hG1 : Gf S1 = Gf S := Gf_eq (h101 101 4 (by omega)) (funext fun j => h101 102 j (by omega))
  have h102 : Sb.1 102 = Gf S := by rw [frb.cell (by simp) (by omega), p.2.1, hG1]
  obtain ⟨S3, e3, f3, f4⟩ := m_gait46 hK n2 a b c d 16 0 zF (zsi Sb 102 6 (nI N)) (by omega) (by unfold zF; omega) (by rw [zsi_k, pk_un (by omega), h102, hw.1.1])
  have e102 : S3.1 102 = tk_w (Gf S) N (fun t => gS_w (gW_w a b c d t) K t) := by
    funext m
    rw [f4 m, zsi_k, h102]
    unfold tk_w upd
    by_cases c1 : m = 6
    · subst c1; rw [if_neg (by omega), if_pos rfl, if_pos rfl]
    · rw [if_neg c1, if_neg c1]
  refine ⟨nI N, S1, S3, eF, ?_, mut_end (S := S) ha (fun k j h => g1 k j (by omega) (by omega)) p hmb frb (zFr_trans (zFr_si (by simp)) f3) (K := K) (n := N) ?_ ?_⟩
  · unfold fX8_gait
    rw [zlet_s, p.1, zbv_s, if_neg q1, if_neg q2, if_neg q3, if_pos (by rw [← Int32.not_lt]; exact q4), eb, zbv_s, zlet_s]
    exact e3
  · rw [e102]; exact wf_tk hw n1 n2 (fun t _ => gS_lt _ K t)
  · rw [e102]
    refine rC_tk hK n2 hr (fun j hj => ?_) ?_ (fun j hj => ?_) (fun j hj => ?_) (fun t ht => ?_)
    · rw [g0 1 j (by omega), zsi_k, pk_un (by omega), fa 1 j (by omega)]
    · rw [g0 1 6 (by omega), zsi_k, pk_us]
    · rw [g1 _ _ (by omega) (by omega), fa _ _ (by omega)]
    · rw [g1 _ _ (by omega) (by omega), fa _ _ (by omega)]
    · show S1.1 7 t = _
      rw [f1 t, if_pos (by omega)]
