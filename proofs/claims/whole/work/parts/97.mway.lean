/-! way(): the model, by a queue -/
theorem m_mayBe {w : Nat → Int32} {K n s : Nat} {S : zT} (hS : S.1 102 = w) (hw : wfW w K n) (hs : s < 256) : ∃ r S', fX8_mayBe (nI s) S = some (r, S') ∧ tf r (okS w K (nI s)) := by
  have hK := hw.1.2.2
  have hmx := hw.2.2.2.2.2.1
  have hmy := hw.2.2.2.2.2.2.1
  have key : ∀ (m i fu c : Nat) (S : zT), i + m = K → m < fu → c ≤ i → S.1 102 = w → mS (Fq (bitI (nI s)) (Xw w) (Yp w) i) (w 4).toInt (w 5).toInt c S → ∃ r S', zfix (fun _ _ _ => none) fX8_mayBe_27 fu (nI s) (nI i) S = some (r, S') ∧ tf r (SP (F_p w K (nI s))) := by
    intro m
    induction m with
    | zero =>
      intro i fu c S h1 h2 hc hS hi
      obtain ⟨fu, rfl⟩ : ∃ g, fu = g + 1 := ⟨fu - 1, by omega⟩
      have : i = K := by omega
      subst this
      obtain ⟨r, S', e1, e2⟩ := m_stF hS hw (Fp_B hw (nI s)) (show c ≤ 8 by omega) hi
      refine ⟨r, S', ?_, e2⟩
      rw [zfix_s]; unfold fX8_mayBe_27
      rw [if_pos (by rw [hS, hw.1.1]; exact nI_le (by omega) (by omega))]
      exact e1
    | succ m ih =>
      intro i fu c S h1 h2 hc hS hi
      obtain ⟨fu, rfl⟩ : ∃ g, fu = g + 1 := ⟨fu - 1, by omega⟩
      have hiK : i < K := by omega
      have bd := XY_bd (t := 0) hw hiK
      rw [zfix_s]; unfold fX8_mayBe_27 fX8_mayBe_72
      rw [if_neg (by rw [hS, hw.1.1]; exact nI_ge (by omega) (by omega))]
      by_cases c1 : (zshr (nI s) (nI i)) &&& 1 = 1
      · obtain ⟨S1, e1, e2⟩ := m_stand hmx hmy bd.1 bd.2.2 (show c < 8 by omega) hi
        have fr1 := frX8_stand e1
        have ex : 2 * w (7 + i) = iZ (2 * (Xw w i + (w 4).toInt)) := by
          unfold Xw
          rw [show (w (7 + i)).toInt - (w 4).toInt + (w 4).toInt = (w (7 + i)).toInt by omega, ← iZ_mul, ← iZ_of]; rfl
        have ey : 2 * w (15 + i) = iZ (Yp w i + 2 * (w 5).toInt) := by
          unfold Yp
          rw [show 2 * (w (15 + i)).toInt - 2 * (w 5).toInt + 2 * (w 5).toInt = 2 * (w (15 + i)).toInt by omega, ← iZ_mul, ← iZ_of]; rfl
        obtain ⟨r, S', f1, f2⟩ := ih (i + 1) fu (c + 1) S1 (by omega) (by omega) (by omega) ((fr1.cell (by simp) (by omega)).trans hS) (by rw [Fq_t (δ := bitI (nI s)) (i := i) (decide_eq_true c1)]; exact e2)
        refine ⟨r, S', ?_, f2⟩
        rw [if_pos c1, show (7 : Int32) + nI i = nI (7 + i) from nI_add 7 i, show (15 : Int32) + nI i = nI (15 + i) from nI_add 15 i, if_pos (gin (by omega) (by omega)), if_pos (gin (by omega) (by omega)), nI_clamp (by omega), nI_clamp (by omega), hS, ex, ey, e1, zbv_s, nI_1]
        exact f1
      · obtain ⟨r, S', f1, f2⟩ := ih (i + 1) fu c S (by omega) (by omega) (by omega) hS (by rw [Fq_f (δ := bitI (nI s)) (i := i) (by unfold bitI; simpa using c1)]; exact hi)
        refine ⟨r, S', ?_, f2⟩
        rw [if_neg c1, nI_1]
        exact f1
  have body : ¬ (w 1 = 2 ∧ prB K s = false) → ∃ r S', fX8_mayBe_20 (nI s) S = some (r, S') ∧ tf r (okS w K (nI s)) := by
    intro hp
    obtain ⟨r, S', e1, e2⟩ := key K 0 zF 0 (zsi S 101 5 0) (by omega) (by unfold zF; omega) (by omega) (by rw [zsi_n _ _ (by omega)]; exact hS) (by
      rw [Fq_0]
      exact ⟨by rw [zsi_k, pk_us]; rfl, fun j hj => by omega, fun _ _ h => h.elim⟩)
    exact ⟨r, S', e1, tf_cg ⟨fun h => ⟨by rw [nI_clamp (by omega)]; exact hp, h⟩, fun h => h.2⟩ e2⟩
  unfold fX8_mayBe
  rw [hS]
  by_cases c1 : w 1 = 2
  · rw [if_pos c1, m_pairs hK hs (by rw [hS]; exact hw.1.1), zbi_s]
    by_cases c2 : prB K s = true
    · rw [if_pos c2, if_neg one_ne]; exact body (fun h => by rw [c2] at h; cases h.2)
    · rw [if_neg c2, if_pos rfl]
      exact ⟨0, S, rfl, tf_f (fun h => h.1 ⟨c1, by rw [nI_clamp (by omega)]; simpa using c2⟩)⟩
  · rw [if_neg c1]; exact body (fun h => c1 h.1)
noncomputable def dS (W : Nat → Nat → Prop) (s : Nat) : Nat := Classical.epsilon (fun d => dst W d s)
theorem dS_eq {W : Nat → Nat → Prop} {d s : Nat} (h : dst W d s) : dS W s = d := dst_eq (Classical.epsilon_spec (p := fun d => dst W d s) ⟨d, h⟩) h
def Dsc (t : Nat) (q : Nat → Nat) (s : Nat) : Prop := ∃ i, i < t ∧ q i = s
def upN (q : Nat → Nat) (t s : Nat) : Nat → Nat := fun i => if i = t then s else q i
theorem upN_s (q : Nat → Nat) (t s : Nat) : upN q t s t = s := by unfold upN; rw [if_pos rfl]
theorem upN_n {q : Nat → Nat} {t s i : Nat} (h : i ≠ t) : upN q t s i = q i := by unfold upN; rw [if_neg h]
def Qv (W : Nat → Nat → Prop) (M f t : Nat) (q : Nat → Nat) (S : zT) : Prop := (∀ i, i < t → q i < M ∧ dst W (dS W (q i)) (q i) ∧ dS W (q i) ≤ i ∧ S.1 109 i = nI (q i)) ∧ (∀ i j, i ≤ j → j < t → dS W (q i) ≤ dS W (q j)) ∧ (∀ s, s < M → (Dsc t q s ∧ S.1 108 s = nI (dS W s)) ∨ (¬ Dsc t q s ∧ S.1 108 s = -1)) ∧ t = cn_r (Dsc t q) M ∧ Dsc t q f
def PrP (ok : Nat → Prop) (nb : Nat → Nat → Prop) (M t : Nat) (q : Nat → Nat) (h : Nat) : Prop := ∀ i, i < h → ∀ s, s < M → ok s → nb (q i) s → Dsc t q s
theorem Qv_fr {W : Nat → Nat → Prop} {M f t : Nat} {q : Nat → Nat} {S S' : zT} (h8 : S'.1 108 = S.1 108) (h9 : S'.1 109 = S.1 109) (h : Qv W M f t q S) : Qv W M f t q S' := by
  unfold Qv at h ⊢
  rw [h8, h9]; exact h
theorem bfs_cl {M : Nat} {ok : Nat → Prop} {nb : Nat → Nat → Prop} {f : Nat} {W : Nat → Nat → Prop} (hW : isW M ok nb f W) {t h d : Nat} {q : Nat → Nat} {S : zT} (hQ : Qv W M f t q S) (hP : PrP ok nb M t q h) (hb : ∀ i, i < t → dS W (q i) < d → i < h) : ∀ e, e ≤ d → ∀ a, W e a → Dsc t q a
  | 0, _, a, g => by rw [(hW.1 a).mp g]; exact hQ.2.2.2.2
  | e + 1, he, a, g => by
    rcases (hW.2 e a).mp g with g | ⟨g1, g2, b, b1, b2, b3⟩
    · exact bfs_cl hW hQ hP hb e (by omega) a g
    · obtain ⟨i, i1, i2⟩ := bfs_cl hW hQ hP hb e (by omega) b b2
      obtain ⟨e', e1, e2⟩ := dst_of b2
      have e3 : dS W (q i) = e' := by rw [i2]; exact dS_eq e2
      exact hP i (hb i i1 (by omega)) a g1 g2 (by rw [i2]; exact b3)
theorem bfs_new {M : Nat} {ok : Nat → Prop} {nb : Nat → Nat → Prop} {f : Nat} {W : Nat → Nat → Prop} (hW : isW M ok nb f W) {t h s : Nat} {q : Nat → Nat} {S : zT} (hQ : Qv W M f t q S) (hP : PrP ok nb M t q h) (hh : h < t) (hs : s < M) (hn : ¬ Dsc t q s) (ho : ok s) (hnb : nb (q h) s) : dst W (dS W (q h) + 1) s := by
  obtain ⟨a1, a2, -, -⟩ := hQ.1 h hh
  refine ⟨(hW.2 _ s).mpr (Or.inr ⟨hs, ho, q h, a1, a2.1, hnb⟩), fun e he g => hn ?_⟩
  refine bfs_cl hW hQ hP (d := dS W (q h)) (fun i hi hd => ?_) e (by omega) s g
  by_cases c : i < h
  · exact c
  · have := hQ.2.1 h i (by omega) hi
    omega
theorem dsc_up {t s x : Nat} {q : Nat → Nat} : Dsc (t + 1) (upN q t s) x ↔ (Dsc t q x ∨ x = s) := by
  constructor
  · rintro ⟨i, h1, h2⟩
    by_cases c : i = t
    · rw [c, upN_s] at h2; exact Or.inr h2.symm
    · rw [upN_n c] at h2; exact Or.inl ⟨i, by omega, h2⟩
  · rintro (⟨i, h1, h2⟩ | h)
    · exact ⟨i, by omega, by rw [upN_n (by omega)]; exact h2⟩
    · exact ⟨t, by omega, by rw [upN_s]; exact h.symm⟩
theorem bfs_add {M f t h s : Nat} {W : Nat → Nat → Prop} {q : Nat → Nat} {S : zT} (hQ : Qv W M f t q S) (hh : h < t) (hs : s < M) (hn : ¬ Dsc t q s) (hd : dst W (dS W (q h) + 1) s) (hl : ∀ j, j < t → dS W (q j) ≤ dS W (q h) + 1) : Qv W M f (t + 1) (upN q t s) (zsi (zsi S 108 s (nI (dS W (q h) + 1))) 109 t (nI s)) := by
  have ds := dS_eq hd
  obtain ⟨q1, q2, q3, q4, q5⟩ := hQ
  refine ⟨fun i hi => ?_, fun i j hij hj => ?_, fun x hx => ?_, ?_, dsc_up.mpr (Or.inl q5)⟩
  · by_cases c : i = t
    · subst c
      have := (q1 h hh).2.2.1
      rw [upN_s]
      exact ⟨hs, by rw [ds]; exact hd, by omega, by rw [zsi_k, pk_us]⟩
    · rw [upN_n c, zsi_k, pk_un c, zsi_n _ _ (by omega)]
      exact q1 i (by omega)
  · by_cases c : j = t
    · subst c
      by_cases c2 : i = j
      · subst c2; exact Nat.le_refl _
      · rw [upN_s, upN_n c2, ds]; exact hl i (by omega)
    · rw [upN_n c, upN_n (by omega)]; exact q2 i j hij (by omega)
  · rw [zsi_n _ _ (by omega), zsi_k]
    by_cases c : x = s
    · subst c
      rw [pk_us, ds]; exact Or.inl ⟨dsc_up.mpr (Or.inr rfl), rfl⟩
    · rw [pk_un c]
      rcases q3 x hx with ⟨a, b⟩ | ⟨a, b⟩
      · exact Or.inl ⟨dsc_up.mpr (Or.inl a), b⟩
      · exact Or.inr ⟨fun g => (dsc_up.mp g).elim a c, b⟩
  · rw [cn_ad (p := Dsc t q) (q := Dsc (t + 1) (upN q t s)) (fun _ => dsc_up) hn M, if_pos hs, ← q4]
theorem m_in {w : Nat → Int32} {K n m f h z : Nat} {xt x4 : Int32} {W : Nat → Nat → Prop} (hw : wfW w K n) (hW : isW (2 ^ K) (fun s => okS w K (nI s)) (nbw m) f W) (k99 : Int32 → Int32 → Int32 → Int32 → zT → Option (Int32 × zT)) : ∀ (k b fu t : Nat) (q : Nat → Nat) (S : zT), b + k = 2 ^ K → k < fu → S.1 102 = w → q h = z → Qv W (2 ^ K) f t q S → PrP (fun s => okS w K (nI s)) (nbw m) (2 ^ K) t q h → h < t → (∀ j, j < t → dS W (q j) ≤ dS W (q h) + 1) → (∀ s, s < b → okS w K (nI s) → nbw m z s → Dsc t q s) → ∃ t' q' S', zfix (fun _ _ _ _ _ _ _ => none) (fX8_way_124 k99) fu xt (nI m) x4 (nI t) (nI z) (nI b) S = k99 xt (nI m) x4 (nI t') S' ∧ S'.1 102 = w ∧ q' h = z ∧ Qv W (2 ^ K) f t' q' S' ∧ PrP (fun s => okS w K (nI s)) (nbw m) (2 ^ K) t' q' (h + 1) ∧ h < t' ∧ (∀ j, j < t' → dS W (q' j) ≤ dS W (q' h) + 1) ∧ modX S S' := by
  have hK := hw.1.2.2
  have hp := pow_le256 hK
  intro k
  induction k with
  | zero =>
    intro b fu t q S h1 h2 hS hz hQ hP hh hl hb
    obtain ⟨fu, rfl⟩ : ∃ g, fu = g + 1 := ⟨fu - 1, by omega⟩
    refine ⟨t, q, S, ?_, hS, hz, hQ, fun i hi s hs ho hn => ?_, hh, hl, modX_rf S⟩
    · rw [zfix_s]; unfold fX8_way_124
      rw [hS, hw.1.1, shl1 K (by omega), if_pos (nI_le (by omega) (by omega))]
    · by_cases c : i = h
      · subst c; exact hb s (by omega) ho (by rw [← hz]; exact hn)
      · exact hP i (by omega) s hs ho hn
  | succ k ih =>
    intro b fu t q S h1 h2 hS hz hQ hP hh hl hb
    obtain ⟨fu, rfl⟩ : ∃ g, fu = g + 1 := ⟨fu - 1, by omega⟩
    have hbM : b < 2 ^ K := by omega
    have ht : t ≤ 2 ^ K := by rw [hQ.2.2.2.1]; exact cn_le _ _
    have hz1 : z < 2 ^ K := by rw [← hz]; exact (hQ.1 h hh).1
    have stay : ∀ S1, S1.1 102 = w → Qv W (2 ^ K) f t q S1 → modX S S1 → ((okS w K (nI b) ∧ nbw m z b) → Dsc t q b) → ∃ t' q' S', zfix (fun _ _ _ _ _ _ _ => none) (fX8_way_124 k99) fu xt (nI m) x4 (nI t) (nI z) (nI (b + 1)) S1 = k99 xt (nI m) x4 (nI t') S' ∧ S'.1 102 = w ∧ q' h = z ∧ Qv W (2 ^ K) f t' q' S' ∧ PrP (fun s => okS w K (nI s)) (nbw m) (2 ^ K) t' q' (h + 1) ∧ h < t' ∧ (∀ j, j < t' → dS W (q' j) ≤ dS W (q' h) + 1) ∧ modX S S' := by
      intro S1 k1 Q1 x1 hd
      obtain ⟨t', q', S', e, a1, a2, a3, a4, a5, a6, a7⟩ := ih (b + 1) fu t q S1 (by omega) (by omega) k1 hz Q1 hP hh hl (fun s hs ho hn => by
        by_cases c : s = b
        · subst c; exact hd ⟨ho, hn⟩
        · exact hb s (by omega) ho hn)
      exact ⟨t', q', S', e, a1, a2, a3, a4, a5, a6, modX_tr x1 a7⟩
    rw [zfix_s]; unfold fX8_way_124 fX8_way_204
    rw [hS, hw.1.1, shl1 K (by omega), if_neg (nI_ge (by omega) (by omega)), if_pos (gin (by omega) (by omega)), nI_clamp (by omega), nI_1, nI_xr]
    rcases hQ.2.2.1 b hbM with ⟨d1, d2⟩ | ⟨d1, d2⟩
    · obtain ⟨i, i1, i2⟩ := d1
      have := (hQ.1 i i1).2.2.1
      rw [i2] at this
      rw [if_neg (by rw [d2]; exact nI_nm1 (by omega))]
      exact stay S hS hQ (modX_rf S) (fun _ => ⟨i, i1, i2⟩)
    · rw [if_pos d2, m_ones (xr_lt (by omega) (by omega)), zbi_s]
      by_cases c3 : nI m < bcI (nI (z ^^^ b))
      · rw [if_pos c3]; exact stay S hS hQ (modX_rf S) (fun g => absurd c3 g.2)
      · obtain ⟨r, S1, e1, t1⟩ := m_mayBe (s := b) hS hw (by omega)
        have fr1 := frX8_mayBe e1
        have k8 : S1.1 108 = S.1 108 := fr1.cell (by simp) (by omega)
        have k9 : S1.1 109 = S.1 109 := fr1.cell (by simp) (by omega)
        have k2 : S1.1 102 = w := (fr1.cell (by simp) (by omega)).trans hS
        have x1 : modX S S1 := modX_of fr1 (by simp) (by simp) (by simp)
        have Q1 := Qv_fr k8 k9 hQ
        rw [if_neg c3, e1, zbi_s]
        rcases t1 with ⟨rfl, t1⟩ | ⟨rfl, t1⟩
        · have dn : dst W (dS W (q h) + 1) b := bfs_new hW hQ hP hh hbM d1 t1 (by rw [hz]; exact c3)
          have tM : t < 2 ^ K := by
            rw [hQ.2.2.2.1]
            exact Nat.lt_of_lt_of_le (cn_st (p := Dsc t q) (q := fun _ => True) (fun _ _ => trivial) trivial d1 (2 ^ K) hbM) (cn_le _ _)
          have v8 : S1.1 108 z = nI (dS W (q h)) := by
            rw [k8]
            rcases hQ.2.2.1 z hz1 with ⟨-, g⟩ | ⟨g, -⟩
            · rw [hz]; exact g
            · exact absurd ⟨h, hh, hz⟩ g
          have Q2 := bfs_add Q1 hh hbM d1 dn hl
          obtain ⟨t', q', S', e, a1, a2, a3, a4, a5, a6, a7⟩ := ih (b + 1) fu (t + 1) (upN q t b) (zsi (zsi S1 108 b (nI (dS W (q h) + 1))) 109 t (nI b)) (by omega) (by omega) (by rw [zsi_n _ _ (by omega), zsi_n _ _ (by omega)]; exact k2) (by rw [upN_n (by omega)]; exact hz) Q2 (fun i hi s hs ho hn => dsc_up.mpr (Or.inl (hP i hi s hs ho (by rw [upN_n (show i ≠ t by omega)] at hn; exact hn)))) (by omega) (fun j hj => by
            rw [upN_n (show h ≠ t by omega)]
            by_cases c : j = t
            · subst c; rw [upN_s, dS_eq dn]; exact Nat.le_refl _
            · rw [upN_n c]; exact hl j (by omega)) (fun s hs ho hn => dsc_up.mpr (by
            by_cases c : s = b
            · exact Or.inr c
            · exact Or.inl (hb s (by omega) ho hn)))
          refine ⟨t', q', S', ?_, a1, a2, a3, a4, a5, a6, modX_tr x1 (modX_tr (modX_si (by omega) (by omega)) (modX_tr (modX_si (by omega) (by omega)) a7))⟩
          have gb : ¬ (nI b < 0 ∨ 256 ≤ b) := by
            have g0 := gin (m := b) (N := 256) (by omega) (by omega)
            rw [nI_clamp (by omega)] at g0; exact g0
          have gt : ¬ (nI t < 0 ∨ 256 ≤ (nI t).toNatClampNeg) := gin (by omega) (by omega)
          have gz : ¬ (nI z < 0 ∨ 256 ≤ (nI z).toNatClampNeg) := gin (by omega) (by omega)
          rw [if_neg one_ne, if_pos gz, if_pos gb, zlet_s, if_pos gt, zlet_s, nI_clamp (show z < 2 ^ 31 by omega), nI_clamp (show t < 2 ^ 31 by omega), v8, nI_1, nI_1]
          exact e
        · rw [if_pos rfl]
          exact stay S1 k2 Q1 x1 (fun g => absurd g.1 t1)
theorem m_out {w : Nat → Int32} {K n m f to : Nat} {W : Nat → Nat → Prop} (hw : wfW w K n) (ht : to < 2 ^ K) (hW : isW (2 ^ K) (fun s => okS w K (nI s)) (nbw m) f W) : ∀ (k h fu t : Nat) (q : Nat → Nat) (S : zT), h + k = 256 → k < fu → S.1 102 = w → Qv W (2 ^ K) f t q S → PrP (fun s => okS w K (nI s)) (nbw m) (2 ^ K) t q h → (h < t → ∀ j, j < t → dS W (q j) ≤ dS W (q h) + 1) → ∃ v S', zfix (fun _ _ _ _ _ => none) fX8_way_99 fu (nI to) (nI m) (nI h) (nI t) S = some (v, S') ∧ wvP W to v ∧ S'.1 102 = w ∧ modX S S' := by
  have hp := pow_le256 hw.1.2.2
  intro k
  induction k with
  | zero =>
    intro h fu t q S h1 h2 hS hQ hP hl
    obtain ⟨fu, rfl⟩ : ∃ g, fu = g + 1 := ⟨fu - 1, by omega⟩
    have htM : t ≤ 2 ^ K := by rw [hQ.2.2.2.1]; exact cn_le _ _
    refine ⟨S.1 108 to, S, ?_, ?_, hS, modX_rf S⟩
    · rw [zfix_s]; unfold fX8_way_99
      rw [if_pos (nI_le (by omega) (by omega)), if_pos (gin (by omega) (by omega)), nI_clamp (by omega)]
    · rcases hQ.2.2.1 to ht with ⟨⟨i, i1, i2⟩, g2⟩ | ⟨g1, g2⟩
      · have := (hQ.1 i i1).2.1
        rw [i2] at this
        exact Or.inl ⟨_, this, g2⟩
      · exact Or.inr ⟨fun d g => g1 (bfs_cl hW hQ hP (d := d) (fun i hi _ => by omega) d (Nat.le_refl _) to g), g2⟩
  | succ k ih =>
    intro h fu t q S h1 h2 hS hQ hP hl
    obtain ⟨fu, rfl⟩ : ∃ g, fu = g + 1 := ⟨fu - 1, by omega⟩
    have htM : t ≤ 2 ^ K := by rw [hQ.2.2.2.1]; exact cn_le _ _
    by_cases c : t ≤ h
    · refine ⟨S.1 108 to, S, ?_, ?_, hS, modX_rf S⟩
      · rw [zfix_s]; unfold fX8_way_99
        rw [if_pos (nI_le (by omega) (by omega)), if_pos (gin (by omega) (by omega)), nI_clamp (by omega)]
      · rcases hQ.2.2.1 to ht with ⟨⟨i, i1, i2⟩, g2⟩ | ⟨g1, g2⟩
        · have := (hQ.1 i i1).2.1
          rw [i2] at this
          exact Or.inl ⟨_, this, g2⟩
        · exact Or.inr ⟨fun d g => g1 (bfs_cl hW hQ hP (d := d) (fun i hi _ => by omega) d (Nat.le_refl _) to g), g2⟩
    · have hh : h < t := by omega
      obtain ⟨t', q', S1, e, a1, a2, a3, a4, a5, a6, a7⟩ := m_in (z := q h) (xt := nI to) (x4 := nI (h + 1)) hw hW (zfix (fun _ _ _ _ _ => none) fX8_way_99 fu) (2 ^ K) 0 zF t q S (by omega) (by unfold zF; omega) hS rfl hQ hP hh (hl hh) (fun s hs => by omega)
      obtain ⟨v, S2, f1, f2, f3, f4⟩ := ih (h + 1) fu t' q' S1 (by omega) (by omega) a1 a3 a4 (fun g j hj => by
        have b1 := a6 j hj
        have b2 := a3.2.1 h (h + 1) (by omega) g
        omega)
      refine ⟨v, S2, ?_, f2, f3, modX_tr a7 f4⟩
      rw [zfix_s]; unfold fX8_way_99
      rw [if_neg (nI_ge (by omega) (by omega)), if_pos (gin (by omega) (by omega)), nI_clamp (by omega), (hQ.1 h hh).2.2.2, nI_1]
      exact e.trans f1
