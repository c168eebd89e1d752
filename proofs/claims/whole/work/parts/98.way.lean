theorem m_way57 {w : Nat → Int32} {K n m f to : Nat} {W : Nat → Nat → Prop} (hw : wfW w K n) (hf : f < 2 ^ K) (ht : to < 2 ^ K) (hW : isW (2 ^ K) (fun s => okS w K (nI s)) (nbw m) f W) : ∀ (k i fu : Nat) (S : zT), i + k = 256 → k < fu → S.1 102 = w → (∀ s, s < i → S.1 108 s = -1) → ∃ v S', zfix (fun _ _ _ _ _ => none) fX8_way_57 fu (nI f) (nI to) (nI m) (nI i) S = some (v, S') ∧ wvP W to v ∧ S'.1 102 = w ∧ modX S S' := by
  have hp := pow_le256 hw.1.2.2
  intro k
  induction k with
  | zero =>
    intro i fu S h1 h2 hS hm
    obtain ⟨fu, rfl⟩ : ∃ g, fu = g + 1 := ⟨fu - 1, by omega⟩
    have h256 : (256 : Int32) ≤ nI i := show nI 256 ≤ nI i from nI_le (by omega) (by omega)
    have d0 : dst W 0 f := ⟨(hW.1 f).mpr rfl, fun e he => by omega⟩
    have dd := dS_eq d0
    have D1 : ∀ s, Dsc 1 (fun _ => f) s ↔ (False ∨ s = f) := fun s => ⟨fun ⟨_, _, h⟩ => Or.inr h.symm, fun h => ⟨0, by omega, (h.elim False.elim id).symm⟩⟩
    have Q : Qv W (2 ^ K) f 1 (fun _ => f) (zsi (zsi S 108 f 0) 109 0 (nI f)) := by
      refine ⟨fun j hj => ?_, fun _ _ _ _ => Nat.le_refl _, fun s hs => ?_, ?_, (D1 f).mpr (Or.inr rfl)⟩
      · have : j = 0 := by omega
        subst this
        exact ⟨hf, by rw [dd]; exact d0, by rw [dd]; omega, by rw [zsi_k, pk_us]⟩
      · rw [zsi_n _ _ (by omega), zsi_k]
        by_cases c : s = f
        · subst c
          rw [pk_us, dd]; exact Or.inl ⟨(D1 s).mpr (Or.inr rfl), rfl⟩
        · rw [pk_un c]
          exact Or.inr ⟨fun g => ((D1 s).mp g).elim id c, hm s (by omega)⟩
      · rw [cn_ad (p := fun _ => False) (q := Dsc 1 (fun _ => f)) D1 id (2 ^ K), if_pos hf, cn_no (fun _ => id)]
    obtain ⟨v, S', e1, e2, e3, e4⟩ := m_out hw ht hW 256 0 zF 1 (fun _ => f) (zsi (zsi S 108 f 0) 109 0 (nI f)) (by omega) (by unfold zF; omega) (by rw [zsi_n _ _ (by omega), zsi_n _ _ (by omega)]; exact hS) Q (fun i hi => by omega) (fun _ j _ => by omega)
    refine ⟨v, S', ?_, e2, e3, modX_tr (modX_si (by omega) (by omega)) (modX_tr (modX_si (by omega) (by omega)) e4)⟩
    rw [zfix_s]; unfold fX8_way_57
    rw [if_pos h256, if_pos (gin (by omega) (by omega)), zlet_s, zlet_s, nI_clamp (by omega)]
    exact e1
  | succ k ih =>
    intro i fu S h1 h2 hS hm
    obtain ⟨fu, rfl⟩ : ∃ g, fu = g + 1 := ⟨fu - 1, by omega⟩
    have h256 : ¬ (256 : Int32) ≤ nI i := show ¬ nI 256 ≤ nI i from nI_ge (by omega) (by omega)
    obtain ⟨v, S', e1, e2, e3, e4⟩ := ih (i + 1) fu (zsi S 108 i (-1)) (by omega) (by omega) (by rw [zsi_n _ _ (by omega)]; exact hS) (fun s hs => by
      rw [zsi_k]
      by_cases c : s = i
      · subst c; rw [pk_us]
      · rw [pk_un c]; exact hm s (by omega))
    refine ⟨v, S', ?_, e2, e3, modX_tr (modX_si (by omega) (by omega)) e4⟩
    rw [zfix_s]; unfold fX8_way_57
    rw [if_neg h256, if_pos (gin (by omega) (by omega)), zlet_s, nI_clamp (by omega), nI_1]
    exact e1
noncomputable def wy_v (a1 a2 a3 : Int32) (w : Nat → Int32) (K : Nat) : Int32 := if a1 < 0 then -1 else if nI (2 ^ K) ≤ a1 then -1 else if a2 < 0 then -1 else if nI (2 ^ K) ≤ a2 then -1 else if a3 < 1 then -1 else if 8 < a3 then -1 else @ite _ (okS w K a1) (Classical.propDecidable _) (@ite _ (okS w K a2) (Classical.propDecidable _) (wv_v (Wd (2 ^ K) (fun s => okS w K (nI s)) (nbw a3.toNatClampNeg) a1.toNatClampNeg) a2.toNatClampNeg) (-1)) (-1)
theorem c_way {w : Nat → Int32} {K n : Nat} {a1 a2 a3 : Int32} {S : zT} (hw : wfW w K n) (hr : rC w K n S 1) : ∃ S1, fX7_way a1 a2 a3 S = some (wy_v a1 a2 a3 w K, S1) := by
  have hp := pow_le256 hw.1.2.2
  unfold fX7_way fX7_isWithin wy_v
  rw [c_hasSet hw hr a1, zbi_s]
  by_cases q1 : a1 < 0
  · rw [if_pos q1, if_pos q1, if_pos rfl]; exact ⟨S, rfl⟩
  rw [if_neg q1, if_neg q1]
  by_cases q2 : nI (2 ^ K) ≤ a1
  · rw [if_pos q2, if_pos q2, if_pos rfl]; exact ⟨S, rfl⟩
  rw [if_neg q2, if_neg q2, if_neg one_ne, c_hasSet hw hr a2, zbi_s]
  by_cases q3 : a2 < 0
  · rw [if_pos q3, if_pos q3, if_pos rfl]; exact ⟨S, rfl⟩
  rw [if_neg q3, if_neg q3]
  by_cases q4 : nI (2 ^ K) ≤ a2
  · rw [if_pos q4, if_pos q4, if_pos rfl]; exact ⟨S, rfl⟩
  rw [if_neg q4, if_neg q4, if_neg one_ne]
  by_cases q5 : a3 < 1
  · rw [if_pos q5, if_pos q5, zbi_s, if_pos rfl]; exact ⟨S, rfl⟩
  rw [if_neg q5, if_neg q5]
  by_cases q6 : 8 < a3
  · rw [if_pos q6, if_pos q6, zbi_s, if_pos rfl]; exact ⟨S, rfl⟩
  rw [if_neg q6, if_neg q6, zbi_s, if_neg one_ne]
  obtain ⟨f, hf, rfl⟩ := in_of (K := 2 ^ K) (by omega) q1 q2
  obtain ⟨t, ht, rfl⟩ := in_of (K := 2 ^ K) (by omega) q3 q4
  obtain ⟨m, hm1, hm2, rfl⟩ := rng 1 8 (by omega) (by omega) q5 q6
  obtain ⟨S1, e1, r1⟩ := c_copy hw hr
  obtain ⟨S2, e2, t2⟩ := c_readPlaces hw r1
  have fr2 := frX5_readPlaces e2
  have r2 : rC w K n S2 68 := rC_other (fun k a b => fr2.cell (by simp; omega) (by omega)) r1
  rw [e1, zbv_s, e2, zbv_s, c_sound (ok := fun s => okS w K (nI s)) (by omega) (t2 f hf), zbi_s]
  rcases t2 f hf with ⟨g1, g2⟩ | ⟨g1, g2⟩
  · rw [g1, if_neg one_ne, if_pos g2, c_sound (ok := fun s => okS w K (nI s)) (by omega) (t2 t ht), zbi_s]
    rcases t2 t ht with ⟨g3, g4⟩ | ⟨g3, g4⟩
    · rw [g3, if_neg one_ne, if_pos g4, nI_clamp (by omega), nI_clamp (by omega), nI_clamp (by omega)]
      obtain ⟨v, S3, e3, v3⟩ := c_way79 (m := m) hw hf ht (Wd_is (2 ^ K) (fun s => okS w K (nI s)) (nbw m) f) 256 0 zF S2 (by omega) (by unfold zF; omega) r2 t2 (fun s hs => by omega)
      rw [← wv_eq v3]
      exact ⟨S3, e3⟩
    · rw [g3, if_pos rfl, if_neg g4]; exact ⟨S2, rfl⟩
  · rw [g1, if_pos rfl, if_neg g2]; exact ⟨S2, rfl⟩
theorem K_way : zK_way zInv := by
  intro a1 a2 a3
  refine zO_query (fun w K _ => wy_v a1 a2 a3 w K) (fun S w K n hw hr => ?_) (fun S => rfl) (fun S K n hw hb => ?_)
  · obtain ⟨S1, e1⟩ := c_way (a1 := a1) (a2 := a2) (a3 := a3) hw hr
    exact ⟨S1, e1, cls_of (frX7_way e1) (fun k hk => by simp; omega)⟩
  · have hp := pow_le256 hw.1.2.2
    show ∃ S1, _ = some (wy_v a1 a2 a3 (S.1 102) K, S1) ∧ modFr S S1
    unfold wy_v
    rw [m_isSet hw a1, zbi_s]
    by_cases q1 : a1 < 0
    · rw [if_pos q1, if_pos q1, if_pos rfl]; exact ⟨S, rfl, modFr_rf S⟩
    rw [if_neg q1, if_neg q1]
    by_cases q2 : nI (2 ^ K) ≤ a1
    · rw [if_pos q2, if_pos q2, if_pos rfl]; exact ⟨S, rfl, modFr_rf S⟩
    rw [if_neg q2, if_neg q2, if_neg one_ne, m_isSet hw a2, zbi_s]
    by_cases q3 : a2 < 0
    · rw [if_pos q3, if_pos q3, if_pos rfl]; exact ⟨S, rfl, modFr_rf S⟩
    rw [if_neg q3, if_neg q3]
    by_cases q4 : nI (2 ^ K) ≤ a2
    · rw [if_pos q4, if_pos q4, if_pos rfl]; exact ⟨S, rfl, modFr_rf S⟩
    rw [if_neg q4, if_neg q4, if_neg one_ne]
    by_cases q5 : a3 < 1
    · rw [if_pos q5, if_pos q5]; exact ⟨S, rfl, modFr_rf S⟩
    rw [if_neg q5, if_neg q5]
    by_cases q6 : 8 < a3
    · rw [if_pos q6, if_pos q6]; exact ⟨S, rfl, modFr_rf S⟩
    rw [if_neg q6, if_neg q6]
    obtain ⟨f, hf, rfl⟩ := in_of (K := 2 ^ K) (by omega) q1 q2
    obtain ⟨t, ht, rfl⟩ := in_of (K := 2 ^ K) (by omega) q3 q4
    obtain ⟨m, hm1, hm2, rfl⟩ := rng 1 8 (by omega) (by omega) q5 q6
    obtain ⟨b1, S1, e1, t1⟩ := m_mayBe (s := f) rfl hw (by omega)
    have fr1 := frX8_mayBe e1
    have x1 : modX S S1 := modX_of fr1 (by simp) (by simp) (by simp)
    have k1 : S1.1 102 = S.1 102 := fr1.cell (by simp) (by omega)
    rw [e1, zbi_s]
    rcases t1 with ⟨rfl, t1⟩ | ⟨rfl, t1⟩
    · obtain ⟨b2, S2, e2, t2⟩ := m_mayBe (s := t) k1 hw (by omega)
      have fr2 := frX8_mayBe e2
      have x2 : modX S S2 := modX_tr x1 (modX_of fr2 (by simp) (by simp) (by simp))
      have k2 : S2.1 102 = S.1 102 := (fr2.cell (by simp) (by omega)).trans k1
      rw [if_neg one_ne, if_pos t1, e2, zbi_s]
      rcases t2 with ⟨rfl, t2⟩ | ⟨rfl, t2⟩
      · rw [if_neg one_ne, if_pos t2, nI_clamp (by omega), nI_clamp (by omega), nI_clamp (by omega)]
        obtain ⟨v, S3, e3, v3, k3, x3⟩ := m_way57 (m := m) hw hf ht (Wd_is (2 ^ K) (fun s => okS (S.1 102) K (nI s)) (nbw m) f) 256 0 zF S2 (by omega) (by unfold zF; omega) k2 (fun s hs => by omega)
        rw [← wv_eq v3]
        exact ⟨S3, e3, mod_X (modX_tr x2 x3) k3⟩
      · rw [if_pos rfl, if_neg t2]; exact ⟨S2, rfl, mod_X x2 k2⟩
    · rw [if_pos rfl, if_neg t1]; exact ⟨S1, rfl, mod_X x1 k1⟩
theorem zInv_all : zK_all zInv := ⟨K_walker, K_leg, K_middle, K_pace, K_gait, K_tick, K_regular, K_about, K_down, K_foot, K_stands, K_walks, K_why, K_margin, K_worst, K_fastest, K_many, K_pick, K_rank, K_unlike, K_best, K_without, K_loads, K_way, K_undo⟩
