theorem le_25 {a : Nat} (h : a ≤ 2500) : nI a ≤ (2500 : Int32) := show nI a ≤ nI 2500 from nI_le h (by omega)
theorem nle_25 {a : Nat} (h : 2500 < a) (h2 : a ≤ 20000) : ¬ nI a ≤ (2500 : Int32) := show ¬ nI a ≤ nI 2500 from nI_ge h (by omega)
theorem of_0 : ∀ i, i < 8 → of_w 0 i = 0 := by decide +kernel
theorem dgt_0 {N K i : Nat} : dgt N K 0 i = 0 := by
  unfold dgt
  by_cases c : i = 0
  · rw [if_pos c]
  · rw [if_neg c, Nat.zero_div, Nat.zero_mod]
theorem pw_bd {N K : Nat} (hN : N ≤ 8) (hK : K ≤ 8) : N ^ (K - 1) ≤ 2097152 := by
  have h1 : N ^ (K - 1) ≤ 8 ^ (K - 1) := Nat.pow_le_pow_left hN _
  have h2 : 8 ^ (K - 1) ≤ 8 ^ 7 := Nat.pow_le_pow_right (by omega) (by omega)
  omega
theorem c_rowsOf {N K : Nat} (hN1 : 1 ≤ N) (hN : N ≤ 8) (hK1 : 1 ≤ K) (hK : K ≤ 8) (S : zT) : fX7_rowsOf (nI N) (nI K) S = some (nI (N ^ (K - 1)), S) := by
  have key : ∀ (m i fu : Nat), i + m = K → 1 ≤ i → m < fu → zfix (fun _ _ _ _ _ => none) fX7_rowsOf_4 fu (nI N) (nI K) (nI (N ^ (i - 1))) (nI i) S = some (nI (N ^ (K - 1)), S) := by
    intro m
    induction m with
    | zero =>
      intro i fu h1 hi h2
      obtain ⟨fu, rfl⟩ : ∃ g, fu = g + 1 := ⟨fu - 1, by omega⟩
      have : i = K := by omega
      subst this
      rw [zfix_s]; unfold fX7_rowsOf_4
      rw [if_pos (nI_le (by omega) (by omega))]
    | succ m ih =>
      intro i fu h1 hi h2
      obtain ⟨fu, rfl⟩ : ∃ g, fu = g + 1 := ⟨fu - 1, by omega⟩
      have e := ih (i + 1) fu (by omega) (by omega) (by omega)
      rw [zfix_s]; unfold fX7_rowsOf_4
      rw [if_neg (nI_ge (by omega) (by omega)), pk_mul, nI_1, ← Nat.pow_succ, show (i - 1).succ = i + 1 - 1 by omega]
      exact e
  exact key (K - 1) 1 zF (by omega) (by omega) (by unfold zF; omega)
theorem m_rows17 {N K : Nat} (hN1 : 1 ≤ N) (hN : N ≤ 8) (hK : K ≤ 8) (S : zT) : ∀ (m i fu a : Nat), i + m = K → 1 ≤ i → m < fu → a ≤ 20000 → zfix (fun _ _ _ _ _ => none) fX8_rows_17 fu (nI N) (nI K) (nI a) (nI i) S = some (if a * N ^ m ≤ 2500 then nI (a * N ^ m) else -1, S) := by
  intro m
  induction m with
  | zero =>
    intro i fu a h1 hi h2 ha
    obtain ⟨fu, rfl⟩ : ∃ g, fu = g + 1 := ⟨fu - 1, by omega⟩
    rw [zfix_s]; unfold fX8_rows_17
    rw [if_pos (nI_le (by omega) (by omega)), Nat.pow_zero, Nat.mul_one]
    by_cases c : a ≤ 2500
    · rw [if_pos (le_25 c), if_pos c]
    · rw [if_neg (nle_25 (by omega) (by omega)), if_neg c]
  | succ m ih =>
    intro i fu a h1 hi h2 ha
    obtain ⟨fu, rfl⟩ : ∃ g, fu = g + 1 := ⟨fu - 1, by omega⟩
    rw [zfix_s]; unfold fX8_rows_17 fX8_rows_40
    rw [if_neg (nI_ge (by omega) (by omega))]
    by_cases c : a ≤ 2500
    · have hm : a * N ≤ 20000 := Nat.le_trans (Nat.mul_le_mul c hN) (by omega)
      rw [if_pos (le_25 c), pk_mul, nI_1]
      refine (ih (i + 1) fu (a * N) (by omega) (by omega) (by omega) hm).trans ?_
      rw [show a * N * N ^ m = a * N ^ (m + 1) by rw [Nat.pow_succ, Nat.mul_assoc, Nat.mul_comm N]]
    · have h3 : ¬ a * N ^ m ≤ 2500 := fun g => c (Nat.le_trans (Nat.le_mul_of_pos_right a (Nat.pow_pos (by omega))) g)
      have h4 : ¬ a * N ^ (m + 1) ≤ 2500 := fun g => c (Nat.le_trans (Nat.le_mul_of_pos_right a (Nat.pow_pos (by omega))) g)
      rw [if_neg (nle_25 (by omega) (by omega)), nI_1, if_neg h4]
      refine (ih (i + 1) fu a (by omega) (by omega) (by omega) ha).trans ?_
      rw [if_neg h3]
/-- whether the rows of n and u are told for K legs -/
def tld (n u : Int32) (K : Nat) : Prop := tks n u = true ∧ n.toNatClampNeg ^ (K - 1) ≤ 2500
theorem c_areTold {n u : Int32} {K : Nat} (hK1 : 1 ≤ K) (hK : K ≤ 8) (S : zT) : ∃ r, fX7_areTold n u (nI K) S = some (r, S) ∧ tf r (tld n u K) := by
  unfold fX7_areTold tld
  rw [c_areTicks, zbi_s]
  by_cases c : tks n u = true
  · obtain ⟨N, U, rfl, rfl, h1, h2, h3, h4⟩ := tks_of c
    have pb := pw_bd (N := N) (K := K) h2 hK
    rw [if_pos c, if_neg one_ne, c_rowsOf (by omega) h2 hK1 hK, zbi_s, nI_clamp (by omega)]
    by_cases c2 : N ^ (K - 1) ≤ 2500
    · have : ¬ (2500 : Int32) < nI (N ^ (K - 1)) := show ¬ nI 2500 < _ from nI_nlt c2 (by omega)
      rw [if_neg this]; exact ⟨1, rfl, tf_t ⟨c, c2⟩⟩
    · have : (2500 : Int32) < nI (N ^ (K - 1)) := show nI 2500 < _ from nI_lt (by omega) (by omega)
      rw [if_pos this]; exact ⟨0, rfl, tf_f (fun h => c2 h.2)⟩
  · rw [if_neg c, if_pos rfl]; exact ⟨0, rfl, tf_f (fun h => c h.1)⟩
theorem m_rows {n u : Int32} {K : Nat} (hK1 : 1 ≤ K) (hK : K ≤ 8) (S : zT) : (tld n u K → fX8_rows n u (nI K) S = some (nI (n.toNatClampNeg ^ (K - 1)), S)) ∧ (¬ tld n u K → fX8_rows n u (nI K) S = some (-1, S)) := by
  unfold fX8_rows tld
  rw [m_isRegular, zbi_s]
  by_cases c : tks n u = true
  · obtain ⟨N, U, rfl, rfl, h1, h2, h3, h4⟩ := tks_of c
    have e := m_rows17 (N := N) (K := K) (by omega) h2 hK S (K - 1) 1 zF 1 (by omega) (by omega) (by unfold zF; omega) (by omega)
    rw [Nat.one_mul] at e
    rw [if_pos c, if_neg one_ne, nI_clamp (by omega)]
    refine ⟨fun h => ?_, fun h => ?_⟩
    · rw [if_pos h.2] at e; exact e
    · rw [if_neg (fun g => h ⟨c, g⟩)] at e; exact e
  · rw [if_neg c, if_pos rfl]
    exact ⟨fun h => absurd h.1 c, fun _ => rfl⟩
theorem tk_tk (w : Nat → Int32) (N : Nat) (s s' : Nat → Int32) : tk_w (tk_w w N s) N s' = tk_w w N s' := by
  funext m
  unfold tk_w
  by_cases c : m = 6
  · rw [if_pos c, if_pos c]
  · rw [if_neg c, if_neg c, if_neg c]
    by_cases c2 : 23 ≤ m ∧ m < 39
    · rw [if_pos c2, if_pos c2]
    · rw [if_neg c2, if_neg c2, if_neg c2]
def tkE (w : Nat → Int32) (N : Nat) (g : Nat → Int32) : Prop := ∀ s, tk_w g N s = tk_w w N s
theorem tkE_rf (w : Nat → Int32) (N : Nat) : tkE w N w := fun _ => rfl
theorem tkE_row (w : Nat → Int32) (K N u : Nat) (off : Nat → Nat) : tkE w N (rowO w K N u off) := fun s => tk_tk w N _ s
theorem tkE_lo {w g : Nat → Int32} {N m : Nat} (h : tkE w N g) (h1 : m < 23) (h2 : m ≠ 6) : g m = w m := by
  have := congrFun (h (fun _ => 0)) m
  unfold tk_w at this
  rw [if_neg h2, if_neg (by omega), if_neg h2, if_neg (by omega)] at this; exact this
theorem tkE_hi {w g : Nat → Int32} {N m : Nat} (h : tkE w N g) (h1 : 48 ≤ m) : g m = w m := by
  have := congrFun (h (fun _ => 0)) m
  unfold tk_w at this
  rw [if_neg (by omega), if_neg (by omega), if_neg (by omega), if_neg (by omega)] at this; exact this
def tkA (w g : Nat → Int32) : Prop := ∀ N, tkE w N g
theorem tkA_rf (w : Nat → Int32) : tkA w w := fun _ _ => rfl
theorem c_start {w w0 : Nat → Int32} {K n n0 N u : Nat} {S : zT} (hw : wfW w K n) (ht : tkA w w0) (hN1 : 2 ≤ N) (hN : N ≤ 8) (hu : u < 2147483648) (hr : rC w0 K n0 S 68) : ∃ S', fX3_start (nI N) (nI u) S = some (nI (N ^ (K - 1)), S') ∧ CR w K N u 0 S' := by
  have hK := hw.1.2.2
  have hK2 := hw.1.2.1
  have w00 : w0 0 = nI K := by rw [tkE_lo (ht N) (by omega) (by omega)]; exact hw.1.1
  have key : ∀ (m i fu : Nat) (S : zT), i + m = K → m < fu → rC w0 K n0 S 68 → S.1 66 4 = nI u → (∀ j, j < i → S.1 95 j = 0) → ∃ S', zfix (fun _ _ _ _ => none) fX3_start_7 fu (nI N) (nI u) (nI i) S = some (nI (N ^ (K - 1)), S') ∧ CR w K N u 0 S' := by
    intro m
    induction m with
    | zero =>
      intro i fu S h1 h2 hr h66 h95
      obtain ⟨fu, rfl⟩ : ∃ g, fu = g + 1 := ⟨fu - 1, by omega⟩
      have d0 : dgt N K 0 = fun _ => 0 := by funext j; exact dgt_0
      obtain ⟨S1, e1, f1, g1⟩ := c_layRow (b := 68) (K := K) (N := N) (u := u) (x := 0) (off := dgt N K 0) hK2 hK (by omega) (by omega) hu (by rw [d0]) (fun i a b => ⟨by rw [of_0 i (by omega), d0], by rw [d0]; show 0 < N; omega⟩) S (by rw [hr.1.1]; exact w00)
      have r1 : rC (rowO w K N u (dgt N K 0)) K N S1 68 := (show rowO w0 K N u (dgt N K 0) = rowO w K N u (dgt N K 0) from ht N _) ▸ rC_tk hK (by omega) hr (fun j hj => by rw [f1.cell (k := 68) (by simp) (by omega), zsi_k, pk_un (by omega)]) (by rw [f1.cell (k := 68) (by simp) (by omega), zsi_k, pk_us]) (fun j hj => by rw [f1.cell (k := 68 + 2) (by simp) (by omega), zsi_n _ _ (by omega)]) (fun j hj => by rw [f1.cell (k := 68 + 4) (by simp) (by omega), zsi_n _ _ (by omega)]) g1
      have hwr : wfW (rowO w K N u (dgt N K 0)) K N := wf_row hw (by omega) (by omega)
      obtain ⟨S2, e2, s2⟩ := c_readGait hwr r1
      have fr2 := frX5_readGait e2
      have k66 : S2.1 66 4 = nI u := by rw [fr2.cell (k := 66) (by simp) (by omega), f1.cell (k := 66) (by simp) (by omega), zsi_n _ _ (by omega)]; exact h66
      have k95 : ∀ j, j < K → S2.1 95 j = nI (dgt N K 0 j) := fun j hj => by rw [fr2.cell (k := 95) (by simp) (by omega), f1.cell (k := 95) (by simp) (by omega), zsi_n _ _ (by omega), d0]; exact h95 j (by omega)
      have fin : ∀ S3, CR w K N u 0 S3 → fX3_start_75 (nI N) S3 = some (nI (N ^ (K - 1)), S3) := by
        intro S3 h
        unfold fX3_start_75
        rw [(SO_rC h.2.2).1.1, rowO_lo (by omega) (by omega), hw.1.1, c_rowsOf (by omega) hN (by omega) hK, zbi_s]
      rw [zfix_s]; unfold fX3_start_7
      rw [if_pos (by rw [hr.1.1, w00]; exact nI_le (by omega) (by omega)), e1, zbv_s, e2, zbv_s]
      by_cases c : S2.1 68 4 = 0
      · rw [if_pos c]
        obtain ⟨S3, e3, t3⟩ := c_readPlaces hwr s2.1
        have fr3 := frX5_readPlaces e3
        have cr : CR w K N u 0 (zsi S3 67 4 1) := by
          refine ⟨by rw [zsi_n _ _ (by omega), fr3.cell (k := 66) (by simp) (by omega)]; exact k66, fun j hj => by rw [zsi_n _ _ (by omega), fr3.cell (k := 95) (by simp) (by omega)]; exact k95 j hj, Or.inr ⟨rC_other (fun k a b => by rw [zsi_n _ _ (by omega)]; exact fr3.cell (by simp; omega) (by omega)) s2.1, by rw [zsi_k, pk_us], ?_, fun s hs => by rw [zsi_n _ _ (by omega)]; exact t3 s hs⟩⟩
          rw [← s2.1.1.2.2.2.2.1]; exact c
        rw [e3, zbv_s, zlet_s, fin _ cr]
        exact ⟨_, rfl, cr⟩
      · rw [if_neg c]
        have cr : CR w K N u 0 S2 := ⟨k66, k95, Or.inl s2⟩
        rw [fin _ cr]
        exact ⟨_, rfl, cr⟩
    | succ m ih =>
      intro i fu S h1 h2 hr h66 h95
      obtain ⟨fu, rfl⟩ : ∃ g, fu = g + 1 := ⟨fu - 1, by omega⟩
      obtain ⟨S', e1, e2⟩ := ih (i + 1) fu (zsi S 95 i 0) (by omega) (by omega) (rC_other (fun k a b => zsi_n _ _ (by omega)) hr) (by rw [zsi_n _ _ (by omega)]; exact h66) (fun j hj => by
        rw [zsi_k]
        by_cases c : j = i
        · subst c; rw [pk_us]
        · rw [pk_un c]; exact h95 j (by omega))
      refine ⟨S', ?_, e2⟩
      rw [zfix_s]; unfold fX3_start_7
      rw [if_neg (by rw [hr.1.1, w00]; exact nI_ge (by omega) (by omega)), put_in (by omega) (by omega), zbv_s, nI_1]
      exact e1
  obtain ⟨S', e1, e2⟩ := key K 0 zF (zsi S 66 4 (nI u)) (by omega) (by unfold zF; omega) (rC_other (fun k a b => zsi_n _ _ (by omega)) hr) (by rw [zsi_k, pk_us]) (fun j h => by omega)
  exact ⟨S', e1, e2⟩
