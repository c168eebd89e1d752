noncomputable def fo_r (p : Nat → Prop) : Nat → Nat → Option Nat
  | 0, _ => none
  | m + 1, r => @ite _ (p r) (Classical.propDecidable _) (some r) (fo_r p m (r + 1))
theorem fo_t {p : Nat → Prop} {m r : Nat} (h : p r) : fo_r p (m + 1) r = some r := by
  rw [show fo_r p (m + 1) r = @ite _ (p r) (Classical.propDecidable _) (some r) (fo_r p m (r + 1)) from rfl, if_pos h]
theorem fo_f {p : Nat → Prop} {m r : Nat} (h : ¬ p r) : fo_r p (m + 1) r = fo_r p m (r + 1) := by
  rw [show fo_r p (m + 1) r = @ite _ (p r) (Classical.propDecidable _) (some r) (fo_r p m (r + 1)) from rfl, if_neg h]
def pcP (w : Nat → Int32) (K N u : Nat) (a3 : Int32) (r : Nat) : Prop := rP w K N u r ∧ nI (cn_r (rP w K N u) r) = a3
theorem clsFr_tr {S S1 S2 : zT} (h : clsFr S S1) (g : clsFr S1 S2) : clsFr S S2 := fun k j hk => (g k j hk).trans (h k j hk)
theorem c_pick {w : Nat → Int32} {K n N u R : Nat} {a3 : Int32} (hw : wfW w K n) (hN1 : 2 ≤ N) (hN : N ≤ 8) (hu : u < 2147483648) (hR : R ≤ 2500) : ∀ (m r fu : Nat) (S : zT), r + m = R → m < fu → CR w K N u r S → ∃ S2, clsFr S S2 ∧ ((fo_r (pcP w K N u a3) m r = none ∧ zfix (fun _ _ _ _ _ _ _ => none) fX7_pick_49 fu (nI N) (nI u) a3 (nI R) (nI (cn_r (rP w K N u) r)) (nI r) S = some (0, S2)) ∨ ∃ r', r' < R ∧ fo_r (pcP w K N u a3) m r = some r' ∧ CR w K N u r' S2 ∧ zfix (fun _ _ _ _ _ _ _ => none) fX7_pick_49 fu (nI N) (nI u) a3 (nI R) (nI (cn_r (rP w K N u) r)) (nI r) S = (zbv (fX0_keep 1 S2) fun S_4 => zbi (fX3_packedOffsets S_4) fun r_6 S_5 => zbv (fX6_layRow 1 (nI N) (nI u) r_6 S_5) fun S_7 => some (1, S_7))) := by
  intro m
  induction m with
  | zero =>
    intro r fu S h1 h2 hc
    obtain ⟨fu, rfl⟩ : ∃ g, fu = g + 1 := ⟨fu - 1, by omega⟩
    refine ⟨S, clsFr_rf S, Or.inl ⟨rfl, ?_⟩⟩
    rw [zfix_s]; unfold fX7_pick_49
    rw [if_pos (nI_le (by omega) (by omega))]
  | succ m ih =>
    intro r fu S h1 h2 hc
    obtain ⟨fu, rfl⟩ : ∃ g, fu = g + 1 := ⟨fu - 1, by omega⟩
    obtain ⟨b, S1, e1, t1, c1⟩ := c_rowSteady hw hN1 hN hc
    have fr1 := frX5_isSteady e1
    have q1 : clsFr S S1 := cls_of fr1 (fun k hk => by simp; omega)
    obtain ⟨S3, e3, c3⟩ := c_goOn hw hN1 hN hu c1
    have fr3 := frX3_goOn e3
    have q3 : clsFr S S3 := clsFr_tr q1 (cls_of fr3 (fun k hk => by simp; omega))
    obtain ⟨S4, q4, h4⟩ := ih (r + 1) fu S3 (by omega) (by omega) c3
    rw [zfix_s]; unfold fX7_pick_49 fX7_pick_104
    rw [if_neg (nI_ge (by omega) (by omega)), e1, zbi_s]
    rcases t1 with ⟨rfl, t1⟩ | ⟨rfl, t1⟩
    · rw [if_neg one_ne]
      by_cases c : nI (cn_r (rP w K N u) r) = a3
      · rw [if_pos c, fo_t (p := pcP w K N u a3) ⟨t1, c⟩]
        exact ⟨S1, q1, Or.inr ⟨r, by omega, rfl, c1, rfl⟩⟩
      · rw [if_neg c, fo_f (p := pcP w K N u a3) (fun h => c h.2), e3, zbv_s, nI_1, nI_1]
        rw [cn_t (p := rP w K N u) t1] at h4
        exact ⟨S4, clsFr_tr q3 q4, h4⟩
    · rw [if_pos rfl, fo_f (p := pcP w K N u a3) (fun h => t1 h.1), e3, zbv_s, nI_1]
      rw [cn_f (p := rP w K N u) t1] at h4
      exact ⟨S4, clsFr_tr q3 q4, h4⟩
theorem m_pick {w : Nat → Int32} {K n N u R : Nat} {a3 : Int32} (hw : wfW w K n) (hN1 : 2 ≤ N) (hN : N ≤ 8) (hu : u < 2147483648) (hR : R ≤ 2500) : ∀ (m r fu : Nat) (S : zT), r + m = R → m < fu → tkE w N (S.1 102) → asd w S → ∃ S2, modX S S2 ∧ asd w S2 ∧ ((fo_r (pcP w K N u a3) m r = none ∧ zfix (fun _ _ _ _ _ _ _ _ => none) fX8_pick_48 fu (nI N) (nI u) a3 (nI R) (nI (cn_r (rP w K N u) r)) (-1) (nI r) S = fX8_pick_97 (nI N) (nI u) (-1) S2) ∨ ∃ r', r' < R ∧ fo_r (pcP w K N u a3) m r = some r' ∧ zfix (fun _ _ _ _ _ _ _ _ => none) fX8_pick_48 fu (nI N) (nI u) a3 (nI R) (nI (cn_r (rP w K N u) r)) (-1) (nI r) S = fX8_pick_97 (nI N) (nI u) (nI r') S2) := by
  intro m
  induction m with
  | zero =>
    intro r fu S h1 h2 ht ha
    obtain ⟨fu, rfl⟩ : ∃ g, fu = g + 1 := ⟨fu - 1, by omega⟩
    refine ⟨S, modX_rf S, ha, Or.inl ⟨rfl, ?_⟩⟩
    rw [zfix_s]; unfold fX8_pick_48
    rw [if_pos (nI_le (by omega) (by omega))]
  | succ m ih =>
    intro r fu S h1 h2 ht ha
    obtain ⟨fu, rfl⟩ : ∃ g, fu = g + 1 := ⟨fu - 1, by omega⟩
    obtain ⟨b, S1, e1, t1, k1, -⟩ := m_tries (r := r) hw hN1 hN hu (by omega) ht
    have fr1 := frX8_tries e1
    have ht1 : tkE w N (S1.1 102) := by rw [k1]; exact tkE_row w K N u _
    have ha1 : asd w S1 := ⟨fun j hj => by rw [fr1.cell (by simp) (by omega)]; exact ha.1 j hj, fun j hj => tkE_hi ht1 hj⟩
    have x1 : modX S S1 := modX_of fr1 (by simp) (by simp) (by simp)
    obtain ⟨S2, x2, a2, h4⟩ := ih (r + 1) fu S1 (by omega) (by omega) ht1 ha1
    rw [zfix_s]; unfold fX8_pick_48 fX8_pick_85 fX8_pick_91
    rw [if_neg (nI_ge (by omega) (by omega)), if_pos rfl, e1, zbi_s]
    rcases t1 with ⟨rfl, t1⟩ | ⟨rfl, t1⟩
    · rw [if_neg one_ne]
      by_cases c : nI (cn_r (rP w K N u) r) = a3
      · rw [if_pos c, fo_t (p := pcP w K N u a3) ⟨t1, c⟩]
        refine ⟨S1, x1, ha1, Or.inr ⟨r, by omega, rfl, ?_⟩⟩
        obtain ⟨fu, rfl⟩ : ∃ g, fu = g + 1 := ⟨fu - 1, by omega⟩
        rw [zfix_s, nI_1, nI_1]
        by_cases cr : R ≤ r + 1
        · rw [if_pos (nI_le (by omega) (by omega))]
        · rw [if_neg (nI_ge (by omega) (by omega)), if_neg (nI_nm1 (by omega))]
      · rw [if_neg c, fo_f (p := pcP w K N u a3) (fun h => c h.2), nI_1, nI_1]
        rw [cn_t (p := rP w K N u) t1] at h4
        exact ⟨S2, modX_tr x1 x2, a2, h4⟩
    · rw [if_pos rfl, fo_f (p := pcP w K N u a3) (fun h => t1 h.1), nI_1]
      rw [cn_f (p := rP w K N u) t1] at h4
      exact ⟨S2, modX_tr x1 x2, a2, h4⟩
theorem K_pick : zK_pick zInv := by
  intro a1 a2 a3 S hI
  obtain ⟨hb, ⟨K, n, hw, hr⟩, hs, hc, hm⟩ := id hI
  have hK2 := hw.1.2.1
  have hK := hw.1.2.2
  have c10 : S.1 1 0 = nI K := by rw [hr.1.1, hw.1.1]
  obtain ⟨b, eT, tT⟩ := c_areTold (n := a1) (u := a2) (K := K) (by omega) hK S
  by_cases qt : ¬ tld a1 a2 K
  · obtain ⟨S2, p⟩ := m_pre hb
    have eb : b = 0 := (tf_ne tT).mpr qt
    refine ⟨0, S, S2, ?_, ?_, zInv_no hI p⟩
    · unfold fX7_pick
      by_cases c : a3 < 0
      · rw [if_pos c]
      · rw [if_neg c, c10, eT, zbi_s, if_pos eb]
    · unfold fX8_pick; rw [zlet_s, p.1, zbv_s, p.2.1, hw.1.1, (m_rows (by omega) hK S2).2 qt, zbi_s, if_pos rfl]
  replace qt : tld a1 a2 K := Classical.not_not.mp qt
  have eb : ¬ b = 0 := fun h => (tf_ne tT).mp h qt
  have h0le : (0 ≤ a3) ↔ ¬ a3 < 0 := by rw [← Int32.not_lt]
  by_cases q3 : a3 < 0
  · obtain ⟨S2, p⟩ := m_pre hb
    refine ⟨0, S, S2, ?_, ?_, zInv_no hI p⟩
    · unfold fX7_pick; rw [if_pos q3]
    · unfold fX8_pick; rw [zlet_s, p.1, zbv_s, p.2.1, hw.1.1, (m_rows (by omega) hK S2).1 qt, zbi_s, if_neg (nI_nm1 (by have := qt.2; omega)), if_neg (fun h => h0le.mp h q3)]
  obtain ⟨N, U, rfl, rfl, n1, n2, u1, u2⟩ := tks_of qt.1
  have pb : N ^ (K - 1) ≤ 2500 := by have := qt.2; rw [nI_clamp (by omega)] at this; exact this
  have rws : ∀ S2, fX8_rows (nI N) (nI U) (nI K) S2 = some (nI (N ^ (K - 1)), S2) := fun S2 => by
    have := (m_rows (n := nI N) (u := nI U) (by omega) hK S2).1 qt
    rw [nI_clamp (by omega)] at this; exact this
  obtain ⟨Sc, ec, rc⟩ := c_copy hw hr
  have frc := frX6_copyFrom ec
  obtain ⟨Ss, es, cs⟩ := c_start (u := U) hw (tkA_rf _) n1 n2 (by omega) rc
  have frs := frX3_start es
  obtain ⟨S0, q0, h0⟩ := c_pick (u := U) (R := N ^ (K - 1)) (a3 := a3) hw n1 n2 (by omega) pb (N ^ (K - 1)) 0 zF Ss (by omega) (by unfold zF; omega) cs
  have q0' : clsFr S S0 := clsFr_tr (clsFr_tr (cls_of frc (fun k hk => by simp; omega)) (cls_of frs (fun k hk => by simp; omega))) q0
  have st : fX7_pick (nI N) (nI U) a3 S = zfix (fun _ _ _ _ _ _ _ => none) fX7_pick_49 zF (nI N) (nI U) a3 (nI (N ^ (K - 1))) 0 0 Ss := by
    unfold fX7_pick
    rw [if_neg q3, c10, eT, zbi_s, if_neg eb, ec, zbv_s, es, zbi_s]
  have mod : ∀ S1 S2, preM S1 S2 → (∀ k j, 101 ≤ k → S1.1 k j = S.1 k j) → ∃ Sx, modX S2 Sx ∧ asd (Gf S) Sx ∧ ((fo_r (pcP (Gf S) K N U a3) (N ^ (K - 1)) 0 = none ∧ fX8_pick (nI N) (nI U) a3 S1 = fX8_pick_97 (nI N) (nI U) (-1) Sx) ∨ ∃ r', r' < N ^ (K - 1) ∧ fo_r (pcP (Gf S) K N U a3) (N ^ (K - 1)) 0 = some r' ∧ fX8_pick (nI N) (nI U) a3 S1 = fX8_pick_97 (nI N) (nI U) (nI r') Sx) := by
    intro S1 S2 p h101
    have hG1 : Gf S1 = Gf S := Gf_eq (h101 101 4 (by omega)) (funext fun j => h101 102 j (by omega))
    have k2 : S2.1 102 = Gf S := by rw [p.2.1, hG1]
    obtain ⟨Sa, ea, ka, aa, xa⟩ := m_asidew S2
    rw [k2] at ka aa
    obtain ⟨Sx, xx, ax, hx⟩ := m_pick (w := Gf S) (u := U) (R := N ^ (K - 1)) (a3 := a3) hw n1 n2 (by omega) pb (N ^ (K - 1)) 0 zF Sa (by omega) (by unfold zF; omega) (by rw [ka]; exact tkE_rf _ _) aa
    have e : fX8_pick (nI N) (nI U) a3 S1 = zfix (fun _ _ _ _ _ _ _ _ => none) fX8_pick_48 zF (nI N) (nI U) a3 (nI (N ^ (K - 1))) 0 (-1) 0 Sa := by
      unfold fX8_pick
      rw [zlet_s, p.1, zbv_s, k2, hw.1.1, rws, zbi_s, if_neg (nI_nm1 (by omega)), if_pos (h0le.mpr q3), ea, zbv_s]
    rw [e]
    exact ⟨Sx, modX_tr xa xx, ax, hx⟩
  rcases h0 with ⟨hno, hf⟩ | ⟨r, hrR, hso, hcr, hf⟩
  · obtain ⟨S2, p⟩ := m_pre (S := S0) (by rw [q0' 101 4 (by omega)]; exact hb)
    obtain ⟨Sx, xx, ax, hx⟩ := mod S0 S2 p (fun k j h => q0' k j (by omega))
    rcases hx with ⟨-, hx⟩ | ⟨r', -, hx, -⟩
    · obtain ⟨S3, e3, k3, x3⟩ := m_backw ax
      have hG1 : Gf S0 = Gf S := Gf_eq (q0' 101 4 (by omega)) (funext fun j => q0' 102 j (by omega))
      refine ⟨0, S0, S3, st.trans hf, ?_, zInv_query hI q0' p (mod_X (modX_tr xx x3) (by rw [k3, p.2.1, hG1]))⟩
      rw [hx]; unfold fX8_pick_97; rw [e3, zbv_s, if_pos rfl]
    · rw [hno] at hx; cases hx
  · obtain ⟨Sa, ea, ha, fa⟩ := mutC hc hw hr (S0 := S0) q0'
    have hf8 : ∀ i, dgt N K r i < 8 := fun i => by have := dgt_lt (N := N) (K := K) (r := r) (i := i) (by omega); omega
    have ep := c_packed (S := Sa) hf8 (by omega) hK (by rw [fa 68 0 (by omega), (SO_rC hcr.2.2).1.1, rowO_lo (by omega) (by omega), hw.1.1]) (fun i hi => by rw [fa 95 i (by omega)]; exact hcr.2.1 i hi)
    obtain ⟨S1, e1, f1, f2⟩ := c_layRow (b := 1) (K := K) (N := N) (u := U) (x := nI (pq_n (dgt N K r) K)) (off := dgt N K r) hK2 hK (by omega) (by omega) (by omega) (by unfold dgt; rw [if_pos rfl]) (fun i h1 h2 => ⟨by rw [of_nI (pq_lt2 hf8 hK), pq_dig hf8 K i h1 h2], dgt_lt (by omega)⟩) Sa (by rw [fa 1 0 (by omega), q0' 1 0 (by omega), c10])
    have h101 : ∀ k j, 101 ≤ k → S1.1 k j = S.1 k j := fun k j h => by
      rw [show S1.1 k j = (zsi Sa 1 6 (nI N)).1 k j from (f1 k j (by simp; omega) (by simp)).1, zsi_n _ _ (by omega), fa k j (by omega), q0' k j (by omega)]
    obtain ⟨S2, p⟩ := m_pre (S := S1) (by rw [h101 101 4 (by omega)]; exact hb)
    have hG1 : Gf S1 = Gf S := Gf_eq (h101 101 4 (by omega)) (funext fun j => h101 102 j (by omega))
    obtain ⟨Sx, xx, ax, hx⟩ := mod S1 S2 p h101
    rcases hx with ⟨hx, -⟩ | ⟨r', -, hx', hx⟩
    · rw [hso] at hx; cases hx
    · rw [hso] at hx'
      cases hx'
      obtain ⟨Sy, ey, ky, xy⟩ := m_backw ax
      have xz := modX_tr xx xy
      obtain ⟨Sb, ebk, hmb⟩ := mutM hm h101 p (S2' := Sy) xz.2.2.1 xz.2.1 (by rw [ky, p.2.1, hG1])
      have frb := frX8_keep ebk
      have kb : Sb.1 102 = Gf S := by rw [frb.cell (by simp) (by omega), ky]
      obtain ⟨S4, S5, e4, e5, k5, -⟩ := m_lay (w := Gf S) (u := U) (r := r) (S := Sb) hw n1 n2 (by omega) (by omega) (by rw [kb]; exact tkE_rf _ _)
      have fr4 := frX8_offsets e4
      have fr5 := frX8_laysRow e5
      refine ⟨1, S1, S5, ?_, ?_, row_end (r := r) (U := U) hI hw hr n1 n2 q0' ha fa f1 f2 p hmb ?_ (fun k hk => ?_) (zFr_trans (zFr_mono fr4 (by simp) (by simp)) (zFr_mono fr5 (by simp) (by simp))) k5⟩
      · rw [st]
        refine hf.trans ?_
        rw [ea, zbv_s, ep, zbi_s, e1, zbv_s]
      · rw [hx]; unfold fX8_pick_97
        rw [ey, zbv_s, if_neg (nI_nm1 (by omega)), ebk, zbv_s, e4, zbv_s, e5, zbv_s]
      · rw [frb.slot (by simp) (by simp), xz.2.2.2]; exact p.2.2.1
      · rw [frb.cell (by simp; omega) (by omega), xz.1 k hk]
