theorem m_offsets {K N r : Nat} {S : zT} (hN1 : 2 ≤ N) (hN : N ≤ 8) (hK1 : 1 ≤ K) (hK : K ≤ 8) (hr : r < 2147483648) (h0 : S.1 102 0 = nI K) : ∃ S', fX8_offsets (nI N) (nI r) S = some S' ∧ ∀ i, i < K → S'.1 107 i = nI (dgt N K r i) := by
  have key : ∀ (i fu : Nat) (S : zT), i < K → i < fu → (∀ j, i < j → j < K → S.1 107 j = nI (dgt N K r j)) → ∃ S', zfix (fun _ _ _ _ => none) fX8_offsets_12 fu (nI N) (nI (r / N ^ (K - 1 - i))) (nI i) S = some S' ∧ ∀ i, i < K → S'.1 107 i = nI (dgt N K r i) := by
    intro i
    induction i with
    | zero =>
      intro fu S hi hf hj
      obtain ⟨fu, rfl⟩ : ∃ g, fu = g + 1 := ⟨fu - 1, by omega⟩
      refine ⟨zsi S 107 0 0, ?_, fun j h => ?_⟩
      · rw [zfix_s]; unfold fX8_offsets_12
        rw [if_pos (by decide), zlet_s]
      · rw [zsi_k]
        by_cases c : j = 0
        · subst c; rw [pk_us]; rfl
        · rw [pk_un c]; exact hj j (by omega) h
    | succ i ih =>
      intro fu S hi hf hj
      obtain ⟨fu, rfl⟩ : ∃ g, fu = g + 1 := ⟨fu - 1, by omega⟩
      have hle := Nat.div_le_self r (N ^ (K - 1 - (i + 1)))
      have hdd : r / N ^ (K - 1 - (i + 1)) / N = r / N ^ (K - 1 - i) := by rw [Nat.div_div_eq_div_mul, ← Nat.pow_succ, show (K - 1 - (i + 1)).succ = K - 1 - i by omega]
      obtain ⟨S', e1, e2⟩ := ih fu (zsi S 107 (i + 1) (nI (r / N ^ (K - 1 - (i + 1)) % N))) (by omega) (by omega) (fun j h1 h2 => by
        rw [zsi_k]
        by_cases c : j = i + 1
        · subst c; rw [pk_us]; unfold dgt; rw [if_neg (by omega)]
        · rw [pk_un c]; exact hj j (by omega) h2)
      refine ⟨S', ?_, e2⟩
      have gi := gin (m := i + 1) (N := 8) (by omega) (by omega)
      rw [zfix_s]; unfold fX8_offsets_12
      rw [if_neg (nI_nle (by omega) (by omega)), if_pos (nI_ne0 (by omega) (by omega)), if_pos gi, zlet_s, if_pos (nI_ne0 (by omega) (by omega)), pk_rem (by omega) (by omega) (by omega), pk_div (by omega) (by omega) (by omega), hdd, nI_clamp (by omega), show nI (i + 1) + (-1) = nI i by
          rw [iZ_nI, iZ_nI, show (-1 : Int32) = iZ (-1) from rfl, iZ_add, show ((i + 1 : Nat) : Int) + -1 = (i : Int) by omega]]
      exact e1
  obtain ⟨S', e1, e2⟩ := key (K - 1) zF S (by omega) (by unfold zF; omega) (fun j a b => by omega)
  refine ⟨S', ?_, e2⟩
  unfold fX8_offsets
  rw [h0, show nI K - 1 = nI (K - 1) from pk_sub (b := 1) (by omega)]
  rw [Nat.sub_self, Nat.pow_zero, Nat.div_one] at e1
  exact e1
def rowR (w : Nat → Int32) (K N u r : Nat) : Nat → Int32 := rowO w K N u (dgt N K r)
theorem m_lay {w : Nat → Int32} {K n N u r : Nat} {S : zT} (hw : wfW w K n) (hN1 : 2 ≤ N) (hN : N ≤ 8) (hu : u < 2147483648) (hr : r < 2147483648) (ht : tkE w N (S.1 102)) : ∃ S1 S', fX8_offsets (nI N) (nI r) S = some S1 ∧ fX8_laysRow (nI N) (nI u) S1 = some S' ∧ S'.1 102 = rowR w K N u r ∧ ∀ i, i < K → S'.1 107 i = nI (dgt N K r i) := by
  have hK := hw.1.2.2
  have h0 : S.1 102 0 = nI K := by rw [tkE_lo ht (by omega) (by omega)]; exact hw.1.1
  obtain ⟨S1, e1, o1⟩ := m_offsets hN1 hN (by have := hw.1.2.1; omega) hK hr h0
  have fr1 := frX8_offsets e1
  have k1 : S1.1 102 = S.1 102 := fr1.cell (by simp) (by omega)
  obtain ⟨S2, e2, o2⟩ := m_laysRow (K := K) (N := N) (u := u) (off := dgt N K r) hw.1.2.1 hK (by omega) (by omega) hu S1 (by rw [k1]; exact h0) (fun i hi => ⟨o1 i hi, dgt_lt (by omega)⟩)
  have fr2 := frX8_laysRow e2
  refine ⟨S1, S2, e1, e2, ?_, fun i hi => by rw [fr2.cell (by simp) (by omega)]; exact o1 i hi⟩
  rw [o2, k1]; exact ht _
theorem m_tries {w : Nat → Int32} {K n N u r : Nat} {S : zT} (hw : wfW w K n) (hN1 : 2 ≤ N) (hN : N ≤ 8) (hu : u < 2147483648) (hr : r < 2147483648) (ht : tkE w N (S.1 102)) : ∃ b S', fX8_tries (nI N) (nI u) (nI r) S = some (b, S') ∧ tf b (wkP (rowR w K N u r) K N) ∧ S'.1 102 = rowR w K N u r ∧ (∀ i, i < K → S'.1 107 i = nI (dgt N K r i)) := by
  obtain ⟨S1, S2, e1, e2, k2, o2⟩ := m_lay hw hN1 hN hu hr ht
  have hwr : wfW (rowR w K N u r) K N := wf_row hw (by omega) (by omega)
  obtain ⟨S3, e3⟩ := m_why k2 hwr
  have fr3 := frX8_whyNot e3
  have iw := why_iff (w := rowR w K N u r) hwr.1.2.2 hwr.2.1.2.2
  unfold fX8_tries
  rw [e1, zbv_s, e2, zbv_s, e3, zbi_s]
  have k3 : S3.1 102 = rowR w K N u r := (fr3.cell (by simp) (by omega)).trans k2
  have o3 : ∀ i, i < K → S3.1 107 i = nI (dgt N K r i) := fun i hi => by rw [fr3.cell (by simp) (by omega)]; exact o2 i hi
  by_cases c : why_v (rowR w K N u r) K N = -1
  · rw [if_pos c]; exact ⟨1, S3, rfl, tf_t (iw.mp c), k3, o3⟩
  · rw [if_neg c]; exact ⟨0, S3, rfl, tf_f (fun h => c (iw.mpr h)), k3, o3⟩
theorem c_rowSteady {w : Nat → Int32} {K n N u r : Nat} {S : zT} (hw : wfW w K n) (hN1 : 2 ≤ N) (hN : N ≤ 8) (hc : CR w K N u r S) : ∃ b S', fX5_isSteady S = some (b, S') ∧ tf b (wkP (rowR w K N u r) K N) ∧ CR w K N u r S' := by
  obtain ⟨b, S', e1, e2⟩ := c_isSteady (wf_row hw (by omega) (by omega)) hc.2.2
  have fr := frX5_isSteady e1
  exact ⟨b, S', e1, e2, by rw [fr.cell (by simp) (by omega)]; exact hc.1, fun i hi => by rw [fr.cell (by simp) (by omega)]; exact hc.2.1 i hi, SO_fr (fun k a b => fr.cell (by simp; omega) (by omega)) hc.2.2⟩
def rP (w : Nat → Int32) (K N u : Nat) (r : Nat) : Prop := wkP (rowR w K N u r) K N
theorem c_count {w : Nat → Int32} {K n N u R : Nat} (hw : wfW w K n) (hN1 : 2 ≤ N) (hN : N ≤ 8) (hu : u < 2147483648) (hR : R ≤ 2500) : ∀ (m r fu : Nat) (S : zT), r + m = R → m < fu → CR w K N u r S → ∃ S', zfix (fun _ _ _ _ => none) fX7_countRows_33 fu (nI R) (nI (cn_r (rP w K N u) r)) (nI r) S = some (nI (cn_r (rP w K N u) R), S') := by
  intro m
  induction m with
  | zero =>
    intro r fu S h1 h2 hc
    obtain ⟨fu, rfl⟩ : ∃ g, fu = g + 1 := ⟨fu - 1, by omega⟩
    have : r = R := by omega
    subst this
    refine ⟨S, ?_⟩
    rw [zfix_s]; unfold fX7_countRows_33
    rw [if_pos (nI_le (by omega) (by omega))]
  | succ m ih =>
    intro r fu S h1 h2 hc
    obtain ⟨fu, rfl⟩ : ∃ g, fu = g + 1 := ⟨fu - 1, by omega⟩
    obtain ⟨b, S1, e1, t1, c1⟩ := c_rowSteady hw hN1 hN hc
    obtain ⟨S2, e2, c2⟩ := c_goOn hw hN1 hN hu c1
    obtain ⟨S3, e3⟩ := ih (r + 1) fu S2 (by omega) (by omega) c2
    refine ⟨S3, ?_⟩
    rw [zfix_s]; unfold fX7_countRows_33 fX7_countRows_52
    rw [if_neg (nI_ge (by omega) (by omega)), e1, zbi_s]
    rcases t1 with ⟨rfl, t1⟩ | ⟨rfl, t1⟩
    · rw [if_neg one_ne, e2, zbv_s, nI_1, nI_1]
      rw [cn_t (p := rP w K N u) t1] at e3; exact e3
    · rw [if_pos rfl, e2, zbv_s, nI_1]
      rw [cn_f (p := rP w K N u) t1] at e3; exact e3
noncomputable def mn_v (n u : Int32) (w : Nat → Int32) (K : Nat) : Int32 := @ite _ (tld n u K) (Classical.propDecidable _) (nI (cn_r (rP w K n.toNatClampNeg u.toNatClampNeg) (n.toNatClampNeg ^ (K - 1)))) (-1)
theorem c_countRows {w w0 : Nat → Int32} {K n n0 : Nat} {a1 a2 : Int32} {S : zT} (hw : wfW w K n) (ht : tkA w w0) (hr : rC w0 K n0 S 68) : ∃ S', fX7_countRows a1 a2 S = some (mn_v a1 a2 w K, S') := by
  have hK := hw.1.2.2
  have hK2 := hw.1.2.1
  unfold fX7_countRows mn_v
  obtain ⟨b, e1, t1⟩ := c_areTold (n := a1) (u := a2) (K := K) (by omega) hK S
  rw [hr.1.1, tkE_lo (ht 0) (by omega) (by omega), hw.1.1, e1, zbi_s]
  rcases t1 with ⟨rfl, t1⟩ | ⟨rfl, t1⟩
  · rw [if_neg one_ne, if_pos t1]
    obtain ⟨N, U, rfl, rfl, h1, h2, h3, h4⟩ := tks_of t1.1
    have pb : N ^ (K - 1) ≤ 2500 := by have := t1.2; rw [nI_clamp (by omega)] at this; exact this
    rw [nI_clamp (by omega), nI_clamp (by omega)]
    obtain ⟨S1, e2, c1⟩ := c_start (u := U) hw ht h1 h2 (by omega) hr
    obtain ⟨S2, e3⟩ := c_count (u := U) (R := N ^ (K - 1)) hw h1 h2 (by omega) pb (N ^ (K - 1)) 0 zF S1 (by omega) (by unfold zF; omega) c1
    rw [e2, zbi_s]
    exact ⟨S2, e3⟩
  · rw [if_pos rfl, if_neg t1]
    exact ⟨S, rfl⟩
def mX2 (S S' : zT) : Prop := modX S S' ∧ S'.1 106 = S.1 106
theorem mX2_tr {S S1 S2 : zT} (h : mX2 S S1) (g : mX2 S1 S2) : mX2 S S2 := ⟨modX_tr h.1 g.1, g.2.trans h.2⟩
theorem m_count {w : Nat → Int32} {K n N u R : Nat} (hw : wfW w K n) (hN1 : 2 ≤ N) (hN : N ≤ 8) (hu : u < 2147483648) (hR : R ≤ 2500) : ∀ (m r fu : Nat) (S : zT), r + m = R → m < fu → tkE w N (S.1 102) → ∃ S', zfix (fun _ _ _ _ _ _ => none) fX8_manyOf_19 fu (nI N) (nI u) (nI R) (nI (cn_r (rP w K N u) r)) (nI r) S = some (nI (cn_r (rP w K N u) R), S') ∧ tkE w N (S'.1 102) := by
  intro m
  induction m with
  | zero =>
    intro r fu S h1 h2 ht
    obtain ⟨fu, rfl⟩ : ∃ g, fu = g + 1 := ⟨fu - 1, by omega⟩
    have : r = R := by omega
    subst this
    refine ⟨S, ?_, ht⟩
    rw [zfix_s]; unfold fX8_manyOf_19
    rw [if_pos (nI_le (by omega) (by omega))]
  | succ m ih =>
    intro r fu S h1 h2 ht
    obtain ⟨fu, rfl⟩ : ∃ g, fu = g + 1 := ⟨fu - 1, by omega⟩
    obtain ⟨b, S1, e1, t1, k1, -⟩ := m_tries (r := r) hw hN1 hN hu (by omega) ht
    obtain ⟨S2, e2, k2⟩ := ih (r + 1) fu S1 (by omega) (by omega) (by rw [k1]; exact tkE_row w K N u _)
    refine ⟨S2, ?_, k2⟩
    rw [zfix_s]; unfold fX8_manyOf_19 fX8_manyOf_42
    rw [if_neg (nI_ge (by omega) (by omega)), e1, zbi_s]
    rcases t1 with ⟨rfl, t1⟩ | ⟨rfl, t1⟩
    · rw [if_neg one_ne, nI_1, nI_1]
      rw [cn_t (p := rP w K N u) t1] at e2; exact e2
    · rw [if_pos rfl, nI_1]
      rw [cn_f (p := rP w K N u) t1] at e2; exact e2
theorem m_manyOf {w : Nat → Int32} {K n : Nat} {a1 a2 : Int32} {S : zT} (hw : wfW w K n) (hS : tkA w (S.1 102)) (ht : tld a1 a2 K) : ∃ S', fX8_manyOf a1 a2 S = some (mn_v a1 a2 w K, S') ∧ (∀ j, 48 ≤ j → S'.1 102 j = w j) := by
  have hK := hw.1.2.2
  have hK2 := hw.1.2.1
  unfold fX8_manyOf mn_v
  rw [if_pos ht, tkE_lo (hS 0) (by omega) (by omega), hw.1.1, (m_rows (by omega) hK S).1 ht, zbi_s]
  obtain ⟨N, U, rfl, rfl, h1, h2, h3, h4⟩ := tks_of ht.1
  have pb : N ^ (K - 1) ≤ 2500 := by have := ht.2; rw [nI_clamp (by omega)] at this; exact this
  rw [nI_clamp (by omega), nI_clamp (by omega)]
  obtain ⟨S1, e1, k1⟩ := m_count (u := U) (R := N ^ (K - 1)) hw h1 h2 (by omega) pb (N ^ (K - 1)) 0 zF S (by omega) (by unfold zF; omega) (hS N)
  exact ⟨S1, e1, fun j hj => tkE_hi k1 hj⟩
theorem K_many : zK_many zInv := by
  intro a1 a2
  refine zO_query (fun w K _ => mn_v a1 a2 w K) (fun S w K n hw hr => ?_) (fun S => rfl) (fun S K n hw hb => ?_)
  · obtain ⟨S1, e1, r1⟩ := c_copy hw hr
    obtain ⟨S2, e2⟩ := c_countRows (a1 := a1) (a2 := a2) hw (tkA_rf w) r1
    have e3 : fX7_many a1 a2 S = some (mn_v a1 a2 w K, S2) := by unfold fX7_many; rw [e1, zbv_s, e2, zbi_s]
    exact ⟨S2, e3, cls_of (frX7_many e3) (fun k hk => by simp; omega)⟩
  · have hK := hw.1.2.2
    have hK2 := hw.1.2.1
    rw [hw.1.1]
    by_cases c : tld a1 a2 K
    · rw [(m_rows (by omega) hK S).1 c, zbi_s, if_neg (nI_nm1 (by have := c.2; omega))]
      obtain ⟨S1, e1, k1, a1', x1⟩ := m_asidew S
      obtain ⟨S2, e2, k2⟩ := m_manyOf (w := S.1 102) (S := S1) (a1 := a1) (a2 := a2) hw (by rw [k1]; exact tkA_rf _) c
      have fr2 := frX8_manyOf e2
      obtain ⟨S3, e3, k3, x3⟩ := m_backw (w := S.1 102) (S := S2) ⟨fun j hj => by rw [fr2.cell (by simp) (by omega)]; exact a1'.1 j hj, k2⟩
      rw [e1, zbv_s, e2, zbi_s, e3, zbv_s]
      exact ⟨S3, rfl, mod_X (modX_tr x1 (modX_tr (modX_of fr2 (by simp) (by simp) (by simp)) x3)) k3⟩
    · rw [(m_rows (by omega) hK S).2 c, zbi_s, if_pos rfl]
      refine ⟨S, ?_, modFr_rf S⟩
      unfold mn_v; rw [if_neg c]
