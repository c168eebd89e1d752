/-! way(): the class, layer by layer -/
def fsh (ok : Nat → Prop) (m a : Nat) (S : zT) (s : Nat) : Prop := S.1 100 s = -1 ∧ ok s ∧ nbw m a s
def rchO (ok : Nat → Prop) (m a M s : Nat) (v : Int32) (S : zT) (G : Prop) (o : Option (Int32 × zT)) : Prop := ∃ g' S', o = some (g', S') ∧ tf g' (G ∨ ∃ s', s ≤ s' ∧ s' < M ∧ fsh ok m a S s') ∧ (∀ s', s ≤ s' → s' < M → fsh ok m a S s' → S'.1 100 s' = v) ∧ (∀ s', ¬ (s ≤ s' ∧ s' < M ∧ fsh ok m a S s') → S'.1 100 s' = S.1 100 s')
theorem c_sound {ok : Nat → Prop} {s : Nat} {S : zT} (hs : s < 256) (h : tf (S.1 80 s) (ok s)) : fX5_isSound (nI s) S = some (S.1 80 s, S) := by
  unfold fX5_isSound
  rw [at_in hs (by omega), zbi_s]
  show (if S.1 80 s = 1 then some (1, S) else some (0, S)) = some (S.1 80 s, S)
  rcases tf_01 h with e | e
  · rw [e, if_neg (by decide)]
  · rw [e, if_pos rfl]
theorem c_rch15 {M a m : Nat} {v : Int32} {ok : Nat → Prop} (hM : M ≤ 256) (ha : a < M) : ∀ (k s fu : Nat) (S : zT) (g : Int32) (G : Prop), s + k = M → k < fu → (∀ s, s < M → tf (S.1 80 s) (ok s)) → tf g G → rchO ok m a M s v S G (zfix (fun _ _ _ _ _ _ _ => none) fX7_reachFrom_15 fu (nI a) v (nI m) g (nI (M - 1)) (nI s) S) := by
  intro k
  induction k with
  | zero =>
    intro s fu S g G h1 h2 h80 hg
    obtain ⟨fu, rfl⟩ : ∃ g, fu = g + 1 := ⟨fu - 1, by omega⟩
    refine ⟨g, S, ?_, tf_cg ⟨Or.inl, fun h => h.elim id (fun ⟨s', h3, h4, _⟩ => by omega)⟩ hg, fun s' h3 h4 => by omega, fun _ _ => rfl⟩
    rw [zfix_s]; unfold fX7_reachFrom_15
    rw [if_pos (nI_lt (by omega) (by omega)), if_pos (tf_01 hg)]
  | succ k ih =>
    intro s fu S g G h1 h2 h80 hg
    obtain ⟨fu, rfl⟩ : ∃ g, fu = g + 1 := ⟨fu - 1, by omega⟩
    have stay : ¬ fsh ok m a S s → rchO ok m a M s v S G (zfix (fun _ _ _ _ _ _ _ => none) fX7_reachFrom_15 fu (nI a) v (nI m) g (nI (M - 1)) (nI (s + 1)) S) := by
      intro hn
      obtain ⟨g', S', e, t, y, z⟩ := ih (s + 1) fu S g G (by omega) (by omega) h80 hg
      have sw : ∀ s', s ≤ s' → fsh ok m a S s' → s + 1 ≤ s' := fun s' h hf => by
        by_cases c : s' = s
        · subst c; exact absurd hf hn
        · omega
      refine ⟨g', S', e, tf_cg ⟨?_, ?_⟩ t, fun s' h3 h4 h5 => y s' (sw s' h3 h5) h4 h5, fun s' hs' => z s' (fun ⟨h3, h4, h5⟩ => hs' ⟨by omega, h4, h5⟩)⟩
      · rintro (h | ⟨s', h3, h4, h5⟩)
        · exact Or.inl h
        · exact Or.inr ⟨s', by omega, h4, h5⟩
      · rintro (h | ⟨s', h3, h4, h5⟩)
        · exact Or.inl h
        · exact Or.inr ⟨s', sw s' h3 h5, h4, h5⟩
    rw [zfix_s]; unfold fX7_reachFrom_15 fX7_reachFrom_71
    rw [if_neg (nI_nlt (by omega) (by omega)), at_in (by omega) (by omega), zbi_s, nI_1]
    by_cases c1 : S.1 (99 + 1) s = -1
    · rw [if_pos c1, c_sound (by omega) (h80 s (by omega)), zbi_s]
      by_cases c2 : ok s
      · rw [if_neg (by rcases h80 s (by omega) with ⟨e, -⟩ | ⟨-, e⟩; · rw [e]; decide
                       · exact absurd c2 e), c_bc, zbi_s, nI_xr]
        by_cases c3 : nI m < bcI (nI (a ^^^ s))
        · rw [if_pos c3]; exact stay (fun h => h.2.2 c3)
        · rw [if_neg c3, put_in (by omega) (by omega), zbv_s]
          have hf : fsh ok m a S s := ⟨c1, c2, c3⟩
          have f1 : ∀ s', s' ≠ s → (zsi S 100 s v).1 100 s' = S.1 100 s' := fun s' h => by rw [zsi_k, pk_un h]
          have ff : ∀ s', s' ≠ s → (fsh ok m a (zsi S 100 s v) s' ↔ fsh ok m a S s') := fun s' h => by unfold fsh; rw [f1 s' h]
          obtain ⟨g', S', e, t, y, z⟩ := ih (s + 1) fu (zsi S 100 s v) 1 (G ∨ fsh ok m a S s) (by omega) (by omega) (fun s' h => by rw [zsi_n _ _ (by omega)]; exact h80 s' h) (tf_t (Or.inr hf))
          refine ⟨g', S', e, tf_cg ⟨?_, ?_⟩ t, fun s' h3 h4 h5 => ?_, fun s' hs' => ?_⟩
          · rintro ((h | h) | ⟨s', h3, h4, h5⟩)
            · exact Or.inl h
            · exact Or.inr ⟨s, by omega, by omega, h⟩
            · exact Or.inr ⟨s', by omega, h4, (ff s' (by omega)).mp h5⟩
          · rintro (h | ⟨s', h3, h4, h5⟩)
            · exact Or.inl (Or.inl h)
            · exact Or.inl (Or.inr hf)
          · by_cases c : s' = s
            · subst c
              rw [z s' (fun h => by omega), zsi_k, pk_us]
            · exact y s' (by omega) h4 ((ff s' c).mpr h5)
          · have c : s' ≠ s := fun c => hs' (by subst c; exact ⟨by omega, by omega, hf⟩)
            rw [z s' (fun ⟨h3, h4, h5⟩ => hs' ⟨by omega, h4, (ff s' c).mp h5⟩), f1 s' c]
      · rw [if_pos (by rcases h80 s (by omega) with ⟨-, e⟩ | ⟨e, -⟩; · exact absurd e c2
                       · exact e)]
        exact stay (fun h => c2 h.2.1)
    · rw [if_neg c1]; exact stay (fun h => c1 h.1)
theorem c_rch {w : Nat → Int32} {K n a m : Nat} {v : Int32} {ok : Nat → Prop} {S : zT} (hw : wfW w K n) (hr : rC w K n S 68) (ha : a < 2 ^ K) (h80 : ∀ s, s < 2 ^ K → tf (S.1 80 s) (ok s)) : ∃ g S', fX7_reachFrom (nI a) v (nI m) S = some (g, S') ∧ tf g (∃ s, s < 2 ^ K ∧ fsh ok m a S s) ∧ (∀ s, s < 2 ^ K → fsh ok m a S s → S'.1 100 s = v) ∧ (∀ s, s < 2 ^ K → ¬ fsh ok m a S s → S'.1 100 s = S.1 100 s) := by
  have hp := pow_le256 hw.1.2.2
  obtain ⟨g, S', e, t, y, z⟩ := c_rch15 (M := 2 ^ K) (v := v) (m := m) hp ha (2 ^ K) 0 zF S 0 False (by omega) (by unfold zF; omega) h80 (tf_f id)
  refine ⟨g, S', ?_, tf_cg ⟨?_, ?_⟩ t, fun s h1 h2 => y s (by omega) h1 h2, fun s h1 h2 => z s (fun h => h2 h.2.2)⟩
  · unfold fX7_reachFrom
    rw [c_full hw.1.2.2 hw.1.1 hr, zbi_s]; exact e
  · rintro (h | ⟨s, h1, h2, h3⟩)
    · exact h.elim
    · exact ⟨s, h2, h3⟩
  · rintro ⟨s, h2, h3⟩; exact Or.inr ⟨s, by omega, h2, h3⟩
/-! one layer more -/
def Ly (W : Nat → Nat → Prop) (M d : Nat) (S : zT) : Prop := ∀ s, s < M → (∃ e, e ≤ d ∧ dst W e s ∧ S.1 100 s = nI e) ∨ (¬ W d s ∧ S.1 100 s = -1)
def nwP (W : Nat → Nat → Prop) (ok : Nat → Prop) (m d a s : Nat) : Prop := ok s ∧ ∃ a', a' < a ∧ dst W d a' ∧ nbw m a' s
def Lg (W : Nat → Nat → Prop) (ok : Nat → Prop) (m M d a : Nat) (S : zT) : Prop := ∀ s, s < M → (∃ e, e ≤ d ∧ dst W e s ∧ S.1 100 s = nI e) ∨ (¬ W d s ∧ nwP W ok m d a s ∧ S.1 100 s = nI (d + 1)) ∨ (¬ W d s ∧ ¬ nwP W ok m d a s ∧ S.1 100 s = -1)
theorem nI_inj {a b : Nat} (ha : a < 2147483648) (hb : b < 2147483648) (h : nI a = nI b) : a = b := (nI_eq ha hb).mp h
theorem nw_s {W : Nat → Nat → Prop} {ok : Nat → Prop} {m d a s : Nat} : nwP W ok m d (a + 1) s ↔ (nwP W ok m d a s ∨ (ok s ∧ dst W d a ∧ nbw m a s)) := by
  constructor
  · rintro ⟨h1, a', h2, h3, h4⟩
    by_cases c : a' = a
    · subst c; exact Or.inr ⟨h1, h3, h4⟩
    · exact Or.inl ⟨h1, a', by omega, h3, h4⟩
  · rintro (⟨h1, a', h2, h3, h4⟩ | ⟨h1, h3, h4⟩)
    · exact ⟨h1, a', by omega, h3, h4⟩
    · exact ⟨h1, a, by omega, h3, h4⟩
theorem c_goF14 {w : Nat → Int32} {K n m d f : Nat} {ok : Nat → Prop} {W : Nat → Nat → Prop} (hw : wfW w K n) (hd : d < 1000) (hW : isW (2 ^ K) ok (nbw m) f W) : ∀ (k a fu : Nat) (S : zT) (g : Int32), a + k = 2 ^ K → k < fu → rC w K n S 68 → (∀ s, s < 2 ^ K → tf (S.1 80 s) (ok s)) → Lg W ok m (2 ^ K) d a S → tf g (∃ s, s < 2 ^ K ∧ ¬ W d s ∧ nwP W ok m d a s) → ∃ g' S', zfix (fun _ _ _ _ _ _ => none) fX7_goFurther_14 fu (nI d) (nI m) g (nI (2 ^ K - 1)) (nI a) S = some (g', S') ∧ Lg W ok m (2 ^ K) d (2 ^ K) S' ∧ tf g' (∃ s, s < 2 ^ K ∧ ¬ W d s ∧ nwP W ok m d (2 ^ K) s) := by
  have hp := pow_le256 hw.1.2.2
  have hp1 : 0 < 2 ^ K := Nat.pow_pos (by omega)
  intro k
  induction k with
  | zero =>
    intro a fu S g h1 h2 hr h80 hL hg
    obtain ⟨fu, rfl⟩ : ∃ g, fu = g + 1 := ⟨fu - 1, by omega⟩
    have : a = 2 ^ K := by omega
    rw [this] at hL hg
    refine ⟨g, S, ?_, hL, hg⟩
    rw [zfix_s]; unfold fX7_goFurther_14
    rw [if_pos (nI_lt (by omega) (by omega)), if_pos (tf_01 hg)]
  | succ k ih =>
    intro a fu S g h1 h2 hr h80 hL hg
    obtain ⟨fu, rfl⟩ : ∃ g, fu = g + 1 := ⟨fu - 1, by omega⟩
    have haM : a < 2 ^ K := by omega
    rw [zfix_s]; unfold fX7_goFurther_14 fX7_goFurther_49
    rw [if_neg (nI_nlt (by omega) (by omega)), at_in (by omega) (by omega), zbi_s, nI_1, nI_1]
    by_cases c : dst W d a
    · have hv : S.1 (99 + 1) a = nI d := by
        rcases hL a haM with ⟨e, h3, h4, h5⟩ | ⟨h3, -⟩ | ⟨h3, -⟩
        · rw [dst_eq c h4]; exact h5
        · exact absurd c.1 h3
        · exact absurd c.1 h3
      obtain ⟨r, S1, e1, t1, y1, z1⟩ := c_rch (m := m) (v := nI (d + 1)) hw hr haM h80
      have fr1 := frX7_reachFrom e1
      have fs : ∀ s, s < 2 ^ K → (fsh ok m a S s ↔ (¬ W d s ∧ ¬ nwP W ok m d a s ∧ ok s ∧ nbw m a s)) := by
        intro s hs
        constructor
        · rintro ⟨h3, h4, h5⟩
          rcases hL s hs with ⟨e, g1, g2, g3⟩ | ⟨g1, g2, g3⟩ | ⟨g1, g2, g3⟩
          · exact absurd (g3.symm.trans h3) (nI_nm1 (by omega))
          · exact absurd (g3.symm.trans h3) (nI_nm1 (by omega))
          · exact ⟨g1, g2, h4, h5⟩
        · rintro ⟨h3, h4, h5, h6⟩
          rcases hL s hs with ⟨e, g1, g2, g3⟩ | ⟨g1, g2, g3⟩ | ⟨g1, g2, g3⟩
          · exact absurd (W_mono hW g1 g2.1) h3
          · exact absurd g2 h4
          · exact ⟨g3, h5, h6⟩
      have L1 : Lg W ok m (2 ^ K) d (a + 1) S1 := by
        intro s hs
        rcases hL s hs with ⟨e, g1, g2, g3⟩ | ⟨g1, g2, g3⟩ | ⟨g1, g2, g3⟩
        · refine Or.inl ⟨e, g1, g2, ?_⟩
          rw [z1 s hs (fun h => ((fs s hs).mp h).1 (W_mono hW g1 g2.1))]; exact g3
        · refine Or.inr (Or.inl ⟨g1, nw_s.mpr (Or.inl g2), ?_⟩)
          rw [z1 s hs (fun h => ((fs s hs).mp h).2.1 g2)]; exact g3
        · by_cases q : ok s ∧ nbw m a s
          · exact Or.inr (Or.inl ⟨g1, nw_s.mpr (Or.inr ⟨q.1, c, q.2⟩), y1 s hs ((fs s hs).mpr ⟨g1, g2, q.1, q.2⟩)⟩)
          · refine Or.inr (Or.inr ⟨g1, fun h => (nw_s.mp h).elim g2 (fun h => q ⟨h.1, h.2.2⟩), ?_⟩)
            rw [z1 s hs (fun h => q ((fs s hs).mp h).2.2)]; exact g3
      have G1 : (∃ s, s < 2 ^ K ∧ ¬ W d s ∧ nwP W ok m d (a + 1) s) ↔ ((∃ s, s < 2 ^ K ∧ ¬ W d s ∧ nwP W ok m d a s) ∨ ∃ s, s < 2 ^ K ∧ fsh ok m a S s) := by
        constructor
        · rintro ⟨s, h3, h4, h5⟩
          by_cases q : nwP W ok m d a s
          · exact Or.inl ⟨s, h3, h4, q⟩
          · rcases nw_s.mp h5 with h6 | ⟨h6, -, h7⟩
            · exact absurd h6 q
            · exact Or.inr ⟨s, h3, (fs s h3).mpr ⟨h4, q, h6, h7⟩⟩
        · rintro (⟨s, h3, h4, h5⟩ | ⟨s, h3, h4⟩)
          · exact ⟨s, h3, h4, nw_s.mpr (Or.inl h5)⟩
          · have h5 := (fs s h3).mp h4
            exact ⟨s, h3, h5.1, nw_s.mpr (Or.inr ⟨h5.2.2.1, c, h5.2.2.2⟩)⟩
      have r1 : rC w K n S1 68 := rC_other (fun k a b => fr1.cell (by simp; omega) (by omega)) hr
      have k1 : ∀ s, s < 2 ^ K → tf (S1.1 80 s) (ok s) := fun s hs => by rw [fr1.cell (by simp) (by omega)]; exact h80 s hs
      rw [if_pos hv, e1, zbi_s]
      rcases t1 with ⟨rfl, t1⟩ | ⟨rfl, t1⟩
      · rw [if_neg one_ne]
        exact ih (a + 1) fu S1 1 (by omega) (by omega) r1 k1 L1 (tf_t (G1.mpr (Or.inr t1)))
      · rw [if_pos rfl]
        exact ih (a + 1) fu S1 g (by omega) (by omega) r1 k1 L1 (tf_cg ⟨fun h => G1.mpr (Or.inl h), fun h => (G1.mp h).elim id (fun h => absurd h t1)⟩ hg)
    · have hv : ¬ S.1 (99 + 1) a = nI d := by
        intro hv
        rcases hL a haM with ⟨e, h3, h4, h5⟩ | ⟨h3, h4, h5⟩ | ⟨h3, h4, h5⟩
        · have : e = d := nI_inj (by omega) (by omega) (h5.symm.trans hv)
          subst this; exact c h4
        · have := nI_inj (a := d + 1) (b := d) (by omega) (by omega) (h5.symm.trans hv)
          omega
        · exact nI_nm1 (s := d) (by omega) (hv.symm.trans h5)
      have nn : ∀ s, nwP W ok m d (a + 1) s ↔ nwP W ok m d a s := fun s => ⟨fun h => (nw_s.mp h).elim id (fun h => absurd h.2.1 c), fun h => nw_s.mpr (Or.inl h)⟩
      rw [if_neg hv]
      refine ih (a + 1) fu S g (by omega) (by omega) hr h80 (fun s hs => ?_) (tf_cg ⟨fun ⟨s, h3, h4, h5⟩ => ⟨s, h3, h4, (nn s).mpr h5⟩, fun ⟨s, h3, h4, h5⟩ => ⟨s, h3, h4, (nn s).mp h5⟩⟩ hg)
      rw [nn s]; exact hL s hs
theorem c_goF {w : Nat → Int32} {K n m d f : Nat} {ok : Nat → Prop} {W : Nat → Nat → Prop} {S : zT} (hw : wfW w K n) (hd : d < 1000) (hf : f < 2 ^ K) (hW : isW (2 ^ K) ok (nbw m) f W) (hr : rC w K n S 68) (h80 : ∀ s, s < 2 ^ K → tf (S.1 80 s) (ok s)) (hL : Ly W (2 ^ K) d S) : ∃ g S', fX7_goFurther (nI d) (nI m) S = some (g, S') ∧ Ly W (2 ^ K) (d + 1) S' ∧ tf g (∃ s, W (d + 1) s ∧ ¬ W d s) := by
  have hp := pow_le256 hw.1.2.2
  have n0 : ∀ s, ¬ nwP W ok m d 0 s := fun s ⟨_, a', h, _⟩ => by omega
  obtain ⟨g, S', e, L1, t1⟩ := c_goF14 (m := m) hw hd hW (2 ^ K) 0 zF S 0 (by omega) (by unfold zF; omega) hr h80 (fun s hs => by
    rcases hL s hs with h | ⟨h3, h4⟩
    · exact Or.inl h
    · exact Or.inr (Or.inr ⟨h3, n0 s, h4⟩)) (tf_f (fun ⟨s, _, _, h⟩ => n0 s h))
  have nw : ∀ s, s < 2 ^ K → ¬ W d s → (W (d + 1) s ↔ nwP W ok m d (2 ^ K) s) := fun s hs hn => (W_new hW hn).trans ⟨fun ⟨_, h3, a, h4, h5, h6⟩ => ⟨h3, a, h4, h5, h6⟩, fun ⟨h3, a, h4, h5, h6⟩ => ⟨hs, h3, a, h4, h5, h6⟩⟩
  refine ⟨g, S', ?_, fun s hs => ?_, tf_cg ⟨?_, ?_⟩ t1⟩
  · unfold fX7_goFurther
    rw [c_full hw.1.2.2 hw.1.1 hr, zbi_s]; exact e
  · rcases L1 s hs with ⟨e, g1, g2, g3⟩ | ⟨g1, g2, g3⟩ | ⟨g1, g2, g3⟩
    · exact Or.inl ⟨e, by omega, g2, g3⟩
    · exact Or.inl ⟨d + 1, by omega, ⟨(nw s hs g1).mpr g2, fun e he h => g1 (W_mono hW (by omega) h)⟩, g3⟩
    · exact Or.inr ⟨fun h => g2 ((nw s hs g1).mp h), g3⟩
  · rintro ⟨s, h3, h4, h5⟩; exact ⟨s, (nw s h3 h4).mpr h5, h4⟩
  · rintro ⟨s, h3, h4⟩
    have hs := W_lt hW hf _ s h3
    exact ⟨s, hs, h4, (nw s hs h4).mp h3⟩
theorem c_way118 {w : Nat → Int32} {K n m f t : Nat} {ok : Nat → Prop} {W : Nat → Nat → Prop} (hw : wfW w K n) (hf : f < 2 ^ K) (ht : t < 2 ^ K) (hW : isW (2 ^ K) ok (nbw m) f W) : ∀ (k d fu : Nat) (S : zT) (g : Int32), d + k = 256 → k < fu → rC w K n S 68 → (∀ s, s < 2 ^ K → tf (S.1 80 s) (ok s)) → Ly W (2 ^ K) d S → ((g = 1 ∧ d + 1 ≤ cn_r (W d) (2 ^ K)) ∨ (g = 0 ∧ ∀ e s, W e s → W d s)) → ∃ v S', zfix (fun _ _ _ _ _ => none) fX7_way_118 fu (nI t) (nI m) g (nI d) S = some (v, S') ∧ wvP W t v := by
  have hp := pow_le256 hw.1.2.2
  have fin : ∀ (S : zT), fX7_way_158 (nI t) S = some (S.1 100 t, S) := fun S => by
    unfold fX7_way_158
    rw [at_in (by omega) (by omega), zbi_s]
  have sat : ∀ {d fu : Nat} {S : zT}, Ly W (2 ^ K) d S → (∀ e s, W e s → W d s) → ∃ v S', zfix (fun _ _ _ _ _ => none) fX7_way_118 (fu + 1) (nI t) (nI m) 0 (nI d) S = some (v, S') ∧ wvP W t v := by
    intro d fu S hL hs
    refine ⟨S.1 100 t, S, ?_, ?_⟩
    · rw [zfix_s]; unfold fX7_way_118
      rw [if_pos rfl, fin]
    · rcases hL t ht with ⟨e, -, g2, g3⟩ | ⟨g1, g2⟩
      · exact Or.inl ⟨e, g2, g3⟩
      · exact Or.inr ⟨fun e h => g1 (hs e t h), g2⟩
  intro k
  induction k with
  | zero =>
    intro d fu S g h1 h2 hr h80 hL hg
    obtain ⟨fu, rfl⟩ : ∃ g, fu = g + 1 := ⟨fu - 1, by omega⟩
    rcases hg with ⟨-, hc⟩ | ⟨rfl, hs⟩
    · have := cn_le (W d) (2 ^ K)
      omega
    · exact sat hL hs
  | succ k ih =>
    intro d fu S g h1 h2 hr h80 hL hg
    obtain ⟨fu, rfl⟩ : ∃ g, fu = g + 1 := ⟨fu - 1, by omega⟩
    rcases hg with ⟨rfl, hc⟩ | ⟨rfl, hs⟩
    · have h256 : ¬ (256 : Int32) ≤ nI d := show ¬ nI 256 ≤ nI d from nI_ge (by omega) (by omega)
      rw [zfix_s]; unfold fX7_way_118
      rw [if_neg one_ne, if_neg h256, at_in (by omega) (by omega), zbi_s]
      by_cases c : S.1 (99 + 1) t = -1
      · obtain ⟨r, S1, e1, L1, t1⟩ := c_goF (m := m) hw (by omega) hf hW hr h80 hL
        have fr1 := frX7_goFurther e1
        rw [if_pos c, e1, zbi_s, nI_1]
        refine ih (d + 1) fu S1 r (by omega) (by omega) (rC_other (fun k a b => fr1.cell (by simp; omega) (by omega)) hr) (fun s hs => by rw [fr1.cell (by simp) (by omega)]; exact h80 s hs) L1 ?_
        rcases t1 with ⟨rfl, s, h3, h4⟩ | ⟨rfl, t1⟩
        · refine Or.inl ⟨rfl, ?_⟩
          have := cn_st (p := W d) (q := W (d + 1)) (fun s h => W_mono hW (by omega) h) h3 h4 (2 ^ K) (W_lt hW hf _ s h3)
          omega
        · refine Or.inr ⟨rfl, fun e s h => W_mono hW (show d ≤ d + 1 by omega) (W_sat hW (fun s h => ?_) e s h)⟩
          by_cases q : W d s
          · exact q
          · exact absurd ⟨s, h, q⟩ t1
      · rw [if_neg c, fin]
        refine ⟨S.1 100 t, S, rfl, ?_⟩
        rcases hL t ht with ⟨e, -, g2, g3⟩ | ⟨g1, g2⟩
        · exact Or.inl ⟨e, g2, g3⟩
        · exact absurd g2 c
    · exact sat hL hs
theorem c_way79 {w : Nat → Int32} {K n m f t : Nat} {ok : Nat → Prop} {W : Nat → Nat → Prop} (hw : wfW w K n) (hf : f < 2 ^ K) (ht : t < 2 ^ K) (hW : isW (2 ^ K) ok (nbw m) f W) : ∀ (k i fu : Nat) (S : zT), i + k = 256 → k < fu → rC w K n S 68 → (∀ s, s < 2 ^ K → tf (S.1 80 s) (ok s)) → (∀ s, s < i → S.1 100 s = -1) → ∃ v S', zfix (fun _ _ _ _ _ => none) fX7_way_79 fu (nI f) (nI t) (nI m) (nI i) S = some (v, S') ∧ wvP W t v := by
  have hp := pow_le256 hw.1.2.2
  intro k
  induction k with
  | zero =>
    intro i fu S h1 h2 hr h80 hm
    obtain ⟨fu, rfl⟩ : ∃ g, fu = g + 1 := ⟨fu - 1, by omega⟩
    have h256 : (256 : Int32) ≤ nI i := show nI 256 ≤ nI i from nI_le (by omega) (by omega)
    rw [zfix_s]; unfold fX7_way_79
    rw [if_pos h256, put_in (by omega) (by omega), zbv_s]
    have w0 : ∀ s, W 0 s ↔ s = f := hW.1
    refine c_way118 hw hf ht hW 256 0 zF (zsi S 100 f 0) 1 (by omega) (by unfold zF; omega) (rC_other (fun k a b => zsi_n _ _ (by omega)) hr) (fun s hs => by rw [zsi_n _ _ (by omega)]; exact h80 s hs) (fun s hs => ?_) (Or.inl ⟨rfl, ?_⟩)
    · by_cases c : s = f
      · refine Or.inl ⟨0, by omega, ⟨(w0 s).mpr c, fun e he => by omega⟩, ?_⟩
        rw [c, zsi_k, pk_us]; rfl
      · refine Or.inr ⟨fun h => c ((w0 s).mp h), ?_⟩
        rw [zsi_k, pk_un c]; exact hm s (by omega)
    · have := cn_st (p := fun _ => False) (q := W 0) (s := f) (fun s h => h.elim) ((w0 f).mpr rfl) id (2 ^ K) hf
      omega
  | succ k ih =>
    intro i fu S h1 h2 hr h80 hm
    obtain ⟨fu, rfl⟩ : ∃ g, fu = g + 1 := ⟨fu - 1, by omega⟩
    have h256 : ¬ (256 : Int32) ≤ nI i := show ¬ nI 256 ≤ nI i from nI_ge (by omega) (by omega)
    rw [zfix_s]; unfold fX7_way_79
    rw [if_neg h256, put_in (by omega) (by omega), zbv_s, nI_1]
    refine ih (i + 1) fu (zsi S 100 i (-1)) (by omega) (by omega) (rC_other (fun k a b => zsi_n _ _ (by omega)) hr) (fun s hs => by rw [zsi_n _ _ (by omega)]; exact h80 s hs) (fun s hs => ?_)
    rw [zsi_k]
    by_cases c : s = i
    · subst c; rw [pk_us]
    · rw [pk_un c]; exact hm s (by omega)
