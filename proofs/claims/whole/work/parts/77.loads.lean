noncomputable def cn_r (p : Nat → Prop) : Nat → Nat
  | 0 => 0
  | m + 1 => @ite _ (p m) (Classical.propDecidable (p m)) (cn_r p m + 1) (cn_r p m)
theorem cn_t {p : Nat → Prop} {m : Nat} (h : p m) : cn_r p (m + 1) = cn_r p m + 1 := by
  rw [show cn_r p (m + 1) = @ite _ (p m) (Classical.propDecidable (p m)) (cn_r p m + 1) (cn_r p m) from rfl, if_pos h]
theorem cn_f {p : Nat → Prop} {m : Nat} (h : ¬ p m) : cn_r p (m + 1) = cn_r p m := by
  rw [show cn_r p (m + 1) = @ite _ (p m) (Classical.propDecidable (p m)) (cn_r p m + 1) (cn_r p m) from rfl, if_neg h]
theorem cn_le (p : Nat → Prop) : ∀ m, cn_r p m ≤ m
  | 0 => Nat.le_refl _
  | m + 1 => by
    have := cn_le p m
    by_cases c : p m
    · rw [cn_t c]; omega
    · rw [cn_f c]; omega
def ldP (w : Nat → Int32) (K n : Nat) (a : Int32) (j : Nat) : Prop := wkP (upd (upd w 5 a) 4 (iZ ((j : Int) - 20))) K n
theorem iZ_20 {j : Nat} (h : j ≤ 40) : -20 ≤ (iZ ((j : Int) - 20)).toInt ∧ (iZ ((j : Int) - 20)).toInt ≤ 20 := by rw [iZ_toInt (by omega) (by omega)]; omega
theorem iZ_20n (j : Nat) : iZ ((j : Int) - 20) + 1 = iZ (((j + 1 : Nat) : Int) - 20) := by
  rw [show (1 : Int32) = iZ 1 from rfl, iZ_add, show (j : Int) - 20 + 1 = ((j + 1 : Nat) : Int) - 20 by omega]
theorem c_loads {w : Nat → Int32} {K n : Nat} {a : Int32} (hw : wfW (upd w 5 a) K n) : ∀ (m j fu : Nat) (S : zT) (x : Int32), j + m = 41 → m < fu → SO1 (upd (upd w 5 a) 4 x) K n S → ∃ S', zfix (fun _ _ _ => none) fX7_loads_30 fu (nI (cn_r (ldP w K n a) j)) (iZ ((j : Int) - 20)) S = some (nI (cn_r (ldP w K n a) 41), S') := by
  intro m
  induction m with
  | zero =>
    intro j fu S x h1 h2 hs
    obtain ⟨fu, rfl⟩ : ∃ g, fu = g + 1 := ⟨fu - 1, by omega⟩
    have : j = 41 := by omega
    subst this
    refine ⟨S, ?_⟩
    rw [zfix_s]; unfold fX7_loads_30
    rw [if_pos (by decide)]
  | succ m ih =>
    intro j fu S x h1 h2 hs
    obtain ⟨fu, rfl⟩ : ∃ g, fu = g + 1 := ⟨fu - 1, by omega⟩
    have s1 : SO1 (upd (upd w 5 a) 4 (iZ ((j : Int) - 20))) K n (zsi S 68 2 (iZ ((j : Int) - 20))) := by
      have := SO1_set (x := iZ ((j : Int) - 20)) (Or.inr (Or.inl ⟨rfl, rfl⟩)) hs
      rw [upd_up] at this; exact this
    obtain ⟨r, S2, e2, t2⟩ := c_isSteady (wf_4 hw (iZ_20 (show j ≤ 40 by omega))) (Or.inl s1)
    have fr := frX5_isSteady e2
    obtain ⟨S', f1⟩ := ih (j + 1) fu S2 _ (by omega) (by omega) (SO1_fr (fun k a b => fr.cell (by simp; omega) (by omega)) s1)
    refine ⟨S', ?_⟩
    have h20 : ¬ (20 : Int32) < iZ ((j : Int) - 20) := by
      rw [show (20 : Int32) = iZ 20 from rfl, iZ_lt (by omega) (by omega) (by omega) (by omega)]; omega
    rw [zfix_s]; unfold fX7_loads_30 fX7_loads_57
    rw [if_neg h20, zlet_s, e2, zbi_s]
    rcases t2 with ⟨rfl, t2⟩ | ⟨rfl, t2⟩
    · rw [if_neg one_ne, nI_1, iZ_20n]
      rw [cn_t (p := ldP w K n a) t2] at f1; exact f1
    · rw [if_pos rfl, iZ_20n]
      rw [cn_f (p := ldP w K n a) t2] at f1; exact f1
/-! the model goes aside, and comes back -/
theorem m_aside (S : zT) : ∃ S', fX8_goAside S = some S' ∧ ∀ j, j < 48 → S'.1 106 j = S.1 102 j := by
  have key : ∀ (m i fu : Nat) (S1 : zT), i + m = 48 → m < fu → S1.1 102 = S.1 102 → (∀ j, j < i → S1.1 106 j = S.1 102 j) → ∃ S', zfix (fun _ _ => none) fX8_goAside_2 fu (nI i) S1 = some S' ∧ ∀ j, j < 48 → S'.1 106 j = S.1 102 j := by
    intro m
    induction m with
    | zero =>
      intro i fu S1 h1 h2 hS hj
      obtain ⟨fu, rfl⟩ : ∃ g, fu = g + 1 := ⟨fu - 1, by omega⟩
      have : i = 48 := by omega
      subst this
      refine ⟨S1, ?_, fun j h => hj j (by omega)⟩
      rw [zfix_s]; unfold fX8_goAside_2
      rw [if_pos (by decide)]
    | succ m ih =>
      intro i fu S1 h1 h2 hS hj
      obtain ⟨fu, rfl⟩ : ∃ g, fu = g + 1 := ⟨fu - 1, by omega⟩
      obtain ⟨S', e1, e2⟩ := ih (i + 1) fu (zsi S1 106 i (S1.1 102 i)) (by omega) (by omega) (by rw [zsi_n _ _ (by omega)]; exact hS) (fun j h => by
        rw [zsi_k]
        by_cases c : j = i
        · subst c; rw [pk_us, hS]
        · rw [pk_un c]; exact hj j (by omega))
      have h48 : ¬ (48 : Int32) ≤ nI i := show ¬ nI 48 ≤ nI i from nI_ge (by omega) (by omega)
      have gi := gin (m := i) (N := 48) (by omega) (by omega)
      refine ⟨S', ?_, e2⟩
      rw [zfix_s]; unfold fX8_goAside_2
      rw [if_neg h48, if_pos gi, if_pos gi, zlet_s, nI_clamp (by omega), nI_1]
      exact e1
  exact key 48 0 zF S (by omega) (by unfold zF; omega) rfl (fun j h => by omega)
theorem m_back (S : zT) : ∃ S', fX8_comeBack S = some S' ∧ ∀ j, S'.1 102 j = if j < 48 then S.1 106 j else S.1 102 j := by
  have key : ∀ (m i fu : Nat) (S1 : zT), i + m = 48 → m < fu → S1.1 106 = S.1 106 → (∀ j, S1.1 102 j = if j < i then S.1 106 j else S.1 102 j) → ∃ S', zfix (fun _ _ => none) fX8_comeBack_2 fu (nI i) S1 = some S' ∧ ∀ j, S'.1 102 j = if j < 48 then S.1 106 j else S.1 102 j := by
    intro m
    induction m with
    | zero =>
      intro i fu S1 h1 h2 hS hj
      obtain ⟨fu, rfl⟩ : ∃ g, fu = g + 1 := ⟨fu - 1, by omega⟩
      have : i = 48 := by omega
      subst this
      refine ⟨S1, ?_, hj⟩
      rw [zfix_s]; unfold fX8_comeBack_2
      rw [if_pos (by decide)]
    | succ m ih =>
      intro i fu S1 h1 h2 hS hj
      obtain ⟨fu, rfl⟩ : ∃ g, fu = g + 1 := ⟨fu - 1, by omega⟩
      obtain ⟨S', e1, e2⟩ := ih (i + 1) fu (zsi S1 102 i (S1.1 106 i)) (by omega) (by omega) (by rw [zsi_n _ _ (by omega)]; exact hS) (fun j => by
        rw [zsi_k]
        by_cases c : j = i
        · subst c; rw [pk_us, hS, if_pos (by omega)]
        · rw [pk_un c, hj j]
          by_cases c2 : j < i
          · rw [if_pos c2, if_pos (by omega)]
          · rw [if_neg c2, if_neg (by omega)])
      have h48 : ¬ (48 : Int32) ≤ nI i := show ¬ nI 48 ≤ nI i from nI_ge (by omega) (by omega)
      have gi := gin (m := i) (N := 48) (by omega) (by omega)
      refine ⟨S', ?_, e2⟩
      rw [zfix_s]; unfold fX8_comeBack_2
      rw [if_neg h48, if_pos gi, if_pos gi, zlet_s, nI_clamp (by omega), nI_1]
      exact e1
  exact key 48 0 zF S (by omega) (by unfold zF; omega) rfl (fun j => by rw [if_neg (by omega)])
/-- what was laid aside is w -/
def asd (w : Nat → Int32) (S : zT) : Prop := (∀ j, j < 48 → S.1 106 j = w j) ∧ ∀ j, 48 ≤ j → S.1 102 j = w j
theorem m_backw {w : Nat → Int32} {S : zT} (h : asd w S) : ∃ S', fX8_comeBack S = some S' ∧ S'.1 102 = w ∧ modX S S' := by
  obtain ⟨S', e1, e2⟩ := m_back S
  have fr := frX8_comeBack e1
  refine ⟨S', e1, funext fun j => ?_, modX_of fr (by simp) (by simp) (by simp)⟩
  rw [e2 j]
  by_cases c : j < 48
  · rw [if_pos c]; exact h.1 j c
  · rw [if_neg c]; exact h.2 j (by omega)
theorem m_asidew (S : zT) : ∃ S', fX8_goAside S = some S' ∧ S'.1 102 = S.1 102 ∧ asd (S.1 102) S' ∧ modX S S' := by
  obtain ⟨S', e1, e2⟩ := m_aside S
  have fr := frX8_goAside e1
  have h : S'.1 102 = S.1 102 := fr.cell (by simp) (by omega)
  exact ⟨S', e1, h, ⟨e2, fun j _ => by rw [h]⟩, modX_of fr (by simp) (by simp) (by simp)⟩
theorem m_loads {w : Nat → Int32} {K n : Nat} {a : Int32} (hw : wfW (upd w 5 a) K n) : ∀ (m j fu : Nat) (S : zT) (x : Int32), j + m = 41 → m < fu → S.1 102 = upd (upd w 5 a) 4 x → asd w S → ∃ S', zfix (fun _ _ _ => none) fX8_loads_39 fu (nI (cn_r (ldP w K n a) j)) (iZ ((j : Int) - 20)) S = some (nI (cn_r (ldP w K n a) 41), S') ∧ S'.1 102 = w ∧ modX S S' := by
  intro m
  induction m with
  | zero =>
    intro j fu S x h1 h2 hS ha
    obtain ⟨fu, rfl⟩ : ∃ g, fu = g + 1 := ⟨fu - 1, by omega⟩
    have : j = 41 := by omega
    subst this
    obtain ⟨S', e1, e2, e3⟩ := m_backw ha
    refine ⟨S', ?_, e2, e3⟩
    rw [zfix_s]; unfold fX8_loads_39
    rw [if_pos (by decide), e1, zbv_s]
  | succ m ih =>
    intro j fu S x h1 h2 hS ha
    obtain ⟨fu, rfl⟩ : ∃ g, fu = g + 1 := ⟨fu - 1, by omega⟩
    have s1 : (zsi S 102 4 (iZ ((j : Int) - 20))).1 102 = upd (upd w 5 a) 4 (iZ ((j : Int) - 20)) := by rw [zsi_k, hS, upd_up]
    have hw2 := wf_4 hw (iZ_20 (show j ≤ 40 by omega))
    obtain ⟨S1, e1⟩ := m_why s1 hw2
    have fr := frX8_whyNot e1
    have iw := why_iff (w := upd (upd w 5 a) 4 (iZ ((j : Int) - 20))) hw2.1.2.2 hw2.2.1.2.2
    have mx : modX S S1 := modX_tr (modX_si (k := 102) (by omega) (by omega)) (modX_of fr (by simp) (by simp) (by simp))
    have s2 : S1.1 102 = upd (upd w 5 a) 4 (iZ ((j : Int) - 20)) := (fr.cell (by simp) (by omega)).trans s1
    have a2 : asd w S1 := ⟨fun i hi => by rw [fr.cell (by simp) (by omega), zsi_n _ _ (by omega)]; exact ha.1 i hi, fun i hi => by rw [s2, pk_un (by omega), pk_un (by omega)]⟩
    obtain ⟨S', f1, f2, f3⟩ := ih (j + 1) fu S1 _ (by omega) (by omega) s2 a2
    refine ⟨S', ?_, f2, modX_tr mx f3⟩
    have h20 : ¬ (20 : Int32) < iZ ((j : Int) - 20) := by
      rw [show (20 : Int32) = iZ 20 from rfl, iZ_lt (by omega) (by omega) (by omega) (by omega)]; omega
    rw [zfix_s]; unfold fX8_loads_39 fX8_loads_64
    rw [if_neg h20, zlet_s, e1, zbi_s]
    by_cases c : wkP (upd (upd w 5 a) 4 (iZ ((j : Int) - 20))) K n
    · rw [if_pos (iw.mpr c), nI_1, iZ_20n]
      rw [cn_t (p := ldP w K n a) c] at f1; exact f1
    · rw [if_neg (fun h => c (iw.mp h)), iZ_20n]
      rw [cn_f (p := ldP w K n a) c] at f1; exact f1
noncomputable def ld_v (a : Int32) (w : Nat → Int32) (K n : Nat) : Int32 := if a < -20 then -1 else if 20 < a then -1 else nI (cn_r (ldP w K n a) 41)
theorem K_loads : zK_loads zInv := by
  intro a
  have ha : ¬ a < -20 → ¬ 20 < a → -20 ≤ a.toInt ∧ a.toInt ≤ 20 := by
    intro h1 h2
    rw [Int32.lt_iff_toInt_lt] at h1 h2
    have e1 : (-20 : Int32).toInt = -20 := by decide
    have e2 : (20 : Int32).toInt = 20 := by decide
    omega
  refine zO_query (ld_v a) (fun S w K n hw hr => ?_) (fun S => rfl) (fun S K n hw hb => ?_)
  · unfold ld_v
    by_cases q1 : a < -20
    · rw [if_pos q1]
      refine ⟨S, ?_, clsFr_rf S⟩
      unfold fX7_loads fX7_isWithin
      rw [if_pos q1, zbi_s, if_pos rfl]
    rw [if_neg q1]
    by_cases q2 : 20 < a
    · rw [if_pos q2]
      refine ⟨S, ?_, clsFr_rf S⟩
      unfold fX7_loads fX7_isWithin
      rw [if_neg q1, if_pos q2, zbi_s, if_pos rfl]
    rw [if_neg q2]
    obtain ⟨S1, e1, s1⟩ := c_tryOut hw hr
    have s2 := SO1_set (x := a) (Or.inr (Or.inr ⟨rfl, rfl⟩)) s1
    obtain ⟨S2, e2⟩ := c_loads (wf_5 hw (ha q1 q2)) 41 0 zF (zsi S1 68 3 a) ((upd w 5 a) 4) (by omega) (by unfold zF; omega) (by rw [upd_id]; exact s2)
    have e3 : fX7_loads a S = some (nI (cn_r (ldP w K n a) 41), S2) := by
      unfold fX7_loads fX7_isWithin
      rw [if_neg q1, if_neg q2, zbi_s, if_neg one_ne, e1, zbv_s, zlet_s]
      exact e2
    have fr := frX7_loads e3
    exact ⟨S2, e3, cls_of fr (fun k hk => by simp; omega)⟩
  · unfold ld_v
    by_cases q1 : a < -20
    · rw [if_pos q1, if_pos q1]; exact ⟨S, rfl, modFr_rf S⟩
    rw [if_neg q1, if_neg q1]
    have hle : a ≤ 20 ↔ ¬ 20 < a := by rw [← Int32.not_lt]
    by_cases q2 : 20 < a
    · rw [if_pos q2, if_neg (fun h => hle.mp h q2)]; exact ⟨S, rfl, modFr_rf S⟩
    rw [if_neg q2, if_pos (hle.mpr q2)]
    obtain ⟨S1, e1, e2, e3, e4⟩ := m_asidew S
    obtain ⟨S2, f1, f2, f3⟩ := m_loads (wf_5 hw (ha q1 q2)) 41 0 zF (zsi S1 102 5 a) ((upd (S.1 102) 5 a) 4) (by omega) (by unfold zF; omega) (by rw [upd_id, zsi_k, e2]) ⟨fun j hj => by rw [zsi_n _ _ (by omega)]; exact e3.1 j hj, fun j hj => by rw [zsi_k, pk_un (by omega)]; exact e3.2 j hj⟩
    rw [e1, zbv_s, zlet_s]
    exact ⟨S2, f1, mod_X (modX_tr e4 (modX_tr (modX_si (k := 102) (by omega) (by omega)) f3)) f2⟩
