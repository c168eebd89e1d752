theorem D_eq {w w' : Nat → Int32} (h : ∀ t, w' (23 + t) = w (23 + t)) : D_w w' = D_w w := by
  funext i t; unfold D_w; rw [h t]
theorem SO1_w {w w' : Nat → Int32} {K n : Nat} {S S' : zT} (h : ∀ t, w' (23 + t) = w (23 + t)) (hr : rC w' K n S' 68) (h67 : S'.1 67 4 = S.1 67 4) (h76 : S'.1 76 = S.1 76) (h78 : S'.1 78 = S.1 78) (hs : SO1 w K n S) : SO1 w' K n S' := by
  obtain ⟨h1, h2, h3⟩ := hs
  refine ⟨hr, by rw [h67]; exact h2, fun i hi => ⟨?_, ?_⟩⟩
  · unfold ldOK; rw [D_eq h, h76]; exact (h3 i hi).1
  · unfold sxOK; rw [D_eq h, h78]; exact (h3 i hi).2
theorem upd_up (w : Nat → Int32) (j : Nat) (x y : Int32) : upd (upd w j x) j y = upd w j y := by
  funext k; unfold upd; by_cases c : k = j
  · rw [if_pos c, if_pos c]
  · rw [if_neg c, if_neg c, if_neg c]
theorem upd_id (w : Nat → Int32) (j : Nat) : upd w j (w j) = w := by
  funext k; unfold upd; by_cases c : k = j
  · rw [if_pos c, c]
  · rw [if_neg c]
theorem upd_cm (w : Nat → Int32) {i j : Nat} (h : i ≠ j) (x y : Int32) : upd (upd w i x) j y = upd (upd w j y) i x := by
  funext k; unfold upd
  by_cases c : k = j
  · rw [if_pos c, if_neg (by omega), if_pos c]
  · rw [if_neg c]
    by_cases c2 : k = i
    · rw [if_pos c2, if_pos c2]
    · rw [if_neg c2, if_neg c2, if_neg c]
theorem wf_2 {w : Nat → Int32} {K n : Nat} {x : Int32} (hw : wfW w K n) (hx : 0 ≤ x.toInt ∧ x.toInt ≤ 9) : wfW (upd w 2 x) K n := by
  have := wf_23 (x := x) (y := w 3) hw hx hw.2.2.2.2.1
  rw [upd_cm w (by omega), upd_id] at this
  exact this
theorem wf_4 {w : Nat → Int32} {K n : Nat} {x : Int32} (hw : wfW w K n) (hx : -20 ≤ x.toInt ∧ x.toInt ≤ 20) : wfW (upd w 4 x) K n := by
  have := wf_45 (x := x) (y := w 5) hw hx hw.2.2.2.2.2.2.1
  rw [upd_cm w (by omega), upd_id] at this
  exact this
theorem wf_5 {w : Nat → Int32} {K n : Nat} {x : Int32} (hw : wfW w K n) (hx : -20 ≤ x.toInt ∧ x.toInt ≤ 20) : wfW (upd w 5 x) K n := by
  have := wf_45 (x := w 4) (y := x) hw hw.2.2.2.2.2.1 hx
  rw [upd_id] at this
  exact this
/-! a field of the body is set -/
theorem rC_set {w : Nat → Int32} {K n : Nat} {S : zT} {b f g : Nat} {x : Int32} (hfg : (f = 4 ∧ g = 2) ∨ (f = 2 ∧ g = 4) ∨ (f = 3 ∧ g = 5)) (h : rC w K n S b) : rC (upd w g x) K n (zsi S b f x) b := by
  obtain ⟨⟨h0, h1, h2, h3, h4, h5, h6⟩, ha, hb, hc⟩ := h
  have up : ∀ j, upd (S.1 b) f x j = if j = f then x else S.1 b j := fun j => rfl
  have uw : ∀ j, upd w g x j = if j = g then x else w j := fun j => rfl
  unfold rC
  rw [zsi_k, zsi_n (k' := b + 2) _ _ (by omega), zsi_n (k' := b + 4) _ _ (by omega), zsi_n (k' := b + 6) _ _ (by omega)]
  simp only [up, uw]
  refine ⟨?_, fun i hi => ?_, fun i hi => ?_, fun i hi => ?_⟩
  · rcases hfg with ⟨rfl, rfl⟩ | ⟨rfl, rfl⟩ | ⟨rfl, rfl⟩ <;> simp [h0, h1, h2, h3, h4, h5, h6]
  · rw [if_neg (by omega)]; exact ha i hi
  · rw [if_neg (by omega)]; exact hb i hi
  · rw [if_neg (by omega)]; exact hc i hi
theorem SO1_set {w : Nat → Int32} {K n : Nat} {S : zT} {f g : Nat} {x : Int32} (hfg : (f = 4 ∧ g = 2) ∨ (f = 2 ∧ g = 4) ∨ (f = 3 ∧ g = 5)) (h : SO1 w K n S) : SO1 (upd w g x) K n (zsi S 68 f x) := by
  refine SO1_w (w := w) (S := S) (fun t => pk_un (by omega)) (rC_set hfg h.1) ?_ ?_ ?_ h
  · rw [zsi_n _ _ (by omega)]
  · rw [zsi_n _ _ (by omega)]
  · rw [zsi_n _ _ (by omega)]
/-! the last number below m with a property -/
noncomputable def lst_r (p : Nat → Prop) : Nat → Int32
  | 0 => -1
  | m + 1 => @ite _ (p m) (Classical.propDecidable (p m)) (nI m) (lst_r p m)
theorem lst_t {p : Nat → Prop} {m : Nat} (h : p m) : lst_r p (m + 1) = nI m := by unfold lst_r; rw [if_pos h]
theorem lst_f {p : Nat → Prop} {m : Nat} (h : ¬ p m) : lst_r p (m + 1) = lst_r p m := by
  rw [show lst_r p (m + 1) = @ite _ (p m) (Classical.propDecidable (p m)) (nI m) (lst_r p m) from rfl, if_neg h]
theorem nI_09 {v : Nat} (h : v ≤ 9) : 0 ≤ (nI v).toInt ∧ (nI v).toInt ≤ 9 := by rw [iZ_nI, iZ_toInt (by omega) (by omega)]; omega
theorem c_fastest {w : Nat → Int32} {K n : Nat} (hw : wfW w K n) : ∀ (m fu : Nat) (S : zT) (x : Int32), m ≤ 10 → m < fu → SO1 (upd w 2 x) K n S → ∃ S', zfix (fun _ _ => none) fX7_fastest_7 fu (iZ ((m : Int) - 1)) S = some (lst_r (fun v => wkP (upd w 2 (nI v)) K n) m, S') := by
  intro m
  induction m with
  | zero =>
    intro fu S x h1 h2 hs
    obtain ⟨fu, rfl⟩ : ∃ g, fu = g + 1 := ⟨fu - 1, by omega⟩
    refine ⟨S, ?_⟩
    rw [zfix_s]; unfold fX7_fastest_7
    rw [if_pos (by decide)]
    rfl
  | succ m ih =>
    intro fu S x h1 h2 hs
    obtain ⟨fu, rfl⟩ : ∃ g, fu = g + 1 := ⟨fu - 1, by omega⟩
    have em : iZ (((m + 1 : Nat) : Int) - 1) = nI m := by rw [iZ_nI, show ((m + 1 : Nat) : Int) - 1 = (m : Int) by omega]
    have s1 : SO1 (upd w 2 (nI m)) K n (zsi S 68 4 (nI m)) := by
      have := SO1_set (x := nI m) (Or.inl ⟨rfl, rfl⟩) hs
      rw [upd_up] at this; exact this
    obtain ⟨r, S2, e2, t2⟩ := c_isSteady (wf_2 hw (nI_09 (show m ≤ 9 by omega))) (Or.inl s1)
    have fr := frX5_isSteady e2
    rw [zfix_s]; unfold fX7_fastest_7
    rw [em, if_neg (by rw [show (0 : Int32) = iZ 0 from rfl, iZ_nI, iZ_lt (by omega) (by omega) (by omega) (by omega)]; omega), zlet_s, e2, zbi_s]
    rcases t2 with ⟨rfl, t2⟩ | ⟨rfl, t2⟩
    · rw [if_neg one_ne, lst_t (p := fun v => wkP (upd w 2 (nI v)) K n) t2]; exact ⟨S2, rfl⟩
    · rw [if_pos rfl, lst_f (p := fun v => wkP (upd w 2 (nI v)) K n) t2, show nI m + (-1) = iZ ((m : Int) - 1) by rw [iZ_nI, show (-1 : Int32) = iZ (-1) from rfl, iZ_add, show (m : Int) + -1 = (m : Int) - 1 by omega]]
      exact ih fu S2 (nI m) (by omega) (by omega) (SO1_fr (fun k a b => fr.cell (by simp; omega) (by omega)) s1)
def modX (S S' : zT) : Prop := (∀ k, k < 101 → S'.1 k = S.1 k) ∧ S'.1 103 = S.1 103 ∧ S'.1 101 3 = S.1 101 3 ∧ S'.1 101 4 = S.1 101 4
theorem modX_rf (S : zT) : modX S S := ⟨fun _ _ => rfl, rfl, rfl, rfl⟩
theorem modX_tr {S S1 S2 : zT} (h : modX S S1) (g : modX S1 S2) : modX S S2 := ⟨fun k hk => (g.1 k hk).trans (h.1 k hk), g.2.1.trans h.2.1, g.2.2.1.trans h.2.2.1, g.2.2.2.trans h.2.2.2⟩
theorem modX_of {L M : List Nat} {S S' : zT} (h : zFr L M S S') (hL : ∀ k ∈ L, 102 ≤ k ∧ k ≠ 103) (h3 : 3 ∉ M) (h4 : 4 ∉ M) : modX S S' := by
  have a : 101 ∉ L := fun g => by have := hL _ g; omega
  exact ⟨fun k hk => h.cell (fun g => by have := hL _ g; omega) (by omega), h.cell (fun g => by have := hL _ g; omega) (by omega), h.slot a h3, h.slot a h4⟩
theorem modX_si {S : zT} {k j : Nat} {v : Int32} (h : 102 ≤ k) (h3 : k ≠ 103) : modX S (zsi S k j v) := ⟨fun _ _ => zsi_n _ _ (by omega), zsi_n _ _ (by omega), by rw [zsi_n _ _ (by omega)], by rw [zsi_n _ _ (by omega)]⟩
theorem mod_X {S S' : zT} (h : modX S S') (h2 : S'.1 102 = S.1 102) : modFr S S' := ⟨h2, h.2.2.2, h.2.2.1, h.2.1, h.1⟩
theorem m_fastest {w : Nat → Int32} {K n : Nat} (hw : wfW w K n) : ∀ (m v fu : Nat) (S : zT) (x : Int32), v + m = 10 → m < fu → S.1 102 = upd w 2 x → ∃ S', zfix (fun _ _ _ _ => none) fX8_fastest_20 fu (w 2) (lst_r (fun v => wkP (upd w 2 (nI v)) K n) v) (nI v) S = some (lst_r (fun v => wkP (upd w 2 (nI v)) K n) 10, S') ∧ S'.1 102 = w ∧ modX S S' := by
  intro m
  induction m with
  | zero =>
    intro v fu S x h1 h2 hS
    obtain ⟨fu, rfl⟩ : ∃ g, fu = g + 1 := ⟨fu - 1, by omega⟩
    have : v = 10 := by omega
    subst this
    refine ⟨zsi S 102 2 (w 2), ?_, ?_, modX_si (by omega) (by omega)⟩
    · rw [zfix_s]; unfold fX8_fastest_20
      rw [if_pos (by decide), zlet_s]
    · rw [zsi_k, hS, upd_up, upd_id]
  | succ m ih =>
    intro v fu S x h1 h2 hS
    obtain ⟨fu, rfl⟩ : ∃ g, fu = g + 1 := ⟨fu - 1, by omega⟩
    have s1 : (zsi S 102 2 (nI v)).1 102 = upd w 2 (nI v) := by rw [zsi_k, hS, upd_up]
    have hw2 := wf_2 hw (nI_09 (show v ≤ 9 by omega))
    obtain ⟨S1, e1⟩ := m_why s1 hw2
    have fr := frX8_whyNot e1
    have iw := why_iff (w := upd w 2 (nI v)) hw2.1.2.2 hw2.2.1.2.2
    have mx : modX S S1 := modX_tr (modX_si (k := 102) (by omega) (by omega)) (modX_of fr (by simp) (by simp) (by simp))
    obtain ⟨S', f1, f2, f3⟩ := ih (v + 1) fu S1 (nI v) (by omega) (by omega) ((fr.cell (by simp) (by omega)).trans s1)
    refine ⟨S', ?_, f2, modX_tr mx f3⟩
    have h9 : ¬ (9 : Int32) < nI v := show ¬ nI 9 < nI v from nI_nlt (by omega) (by omega)
    rw [zfix_s]; unfold fX8_fastest_20 fX8_fastest_43
    rw [if_neg h9, zlet_s, e1, zbi_s]
    by_cases c : wkP (upd w 2 (nI v)) K n
    · rw [lst_t (p := fun v => wkP (upd w 2 (nI v)) K n) c] at f1
      rw [if_pos (iw.mpr c), nI_1]; exact f1
    · rw [lst_f (p := fun v => wkP (upd w 2 (nI v)) K n) c] at f1
      rw [if_neg (fun h => c (iw.mp h)), nI_1]; exact f1
theorem K_fastest : zK_fastest zInv := by
  refine zO_query (fun w K n => lst_r (fun v => wkP (upd w 2 (nI v)) K n) 10) (fun S w K n hw hr => ?_) (fun S => rfl) (fun S K n hw hb => ?_)
  · obtain ⟨S1, e1, s1⟩ := c_tryOut hw hr
    obtain ⟨S2, e2⟩ := c_fastest hw 10 zF S1 (w 2) (by omega) (by unfold zF; omega) (by rw [upd_id]; exact s1)
    have e3 : fX7_fastest S = some (lst_r (fun v => wkP (upd w 2 (nI v)) K n) 10, S2) := by
      unfold fX7_fastest
      rw [e1, zbv_s]
      exact e2
    have fr := frX7_fastest e3
    exact ⟨S2, e3, cls_of fr (fun k hk => by simp; omega)⟩
  · obtain ⟨S1, e1, e2, e3⟩ := m_fastest hw 10 0 zF S (S.1 102 2) (by omega) (by unfold zF; omega) (by rw [upd_id])
    exact ⟨S1, e1, mod_X e3 e2⟩
