def bM (w : Nat → Int32) (K N u R : Nat) (c : Option Nat) (x5 x6 : Int32) (x7 x9 : Int64) : Prop := (c = none ∧ x5 = -1) ∨ ∃ rb, c = some rb ∧ rb < R ∧ x5 = nI rb ∧ x6 = nI (cn_r (rP w K N u) rb) ∧ fB (FB w K N u rb) ∧ (∃ a b, mgP (FB w K N u rb) a b) ∧ x7 = jZ (mg_v (FB w K N u rb)).1 ∧ x9 = jZ (mg_v (FB w K N u rb)).2
def bE (N u : Int32) (x5 x6 : Int32) (S : zT) : Option (Int32 × zT) := zbv (fX8_comeBack S) fun S_1 => (if x5 = (-1) then some ((-1), S_1) else zbv (fX8_keep S_1) fun S_2 => zbv (fX8_offsets N x5 S_2) fun S_3 => zbv (fX8_laysRow N u S_3) fun S_4 => some (x6, S_4))
theorem m_best {w : Nat → Int32} {K n N u R : Nat} (hw : wfW w K n) (hN1 : 2 ≤ N) (hN : N ≤ 8) (hu : u < 2147483648) (hR : R ≤ 2500) : ∀ (m r fu : Nat) (S : zT) (c : Option Nat) (x5 x6 : Int32) (x7 x9 : Int64), r + m = R → m < fu → tkE w N (S.1 102) → asd w S → bM w K N u R c x5 x6 x7 x9 → ∃ S2 y5 y6 y7 y9, modX S S2 ∧ asd w S2 ∧ bM w K N u R (bs_r w K N u m r c) y5 y6 y7 y9 ∧ zfix (fun _ _ _ _ _ _ _ _ _ _ => none) fX8_best_51 fu (nI N) (nI u) (nI R) (nI (cn_r (rP w K N u) r)) x5 x6 x7 x9 (nI r) S = bE (nI N) (nI u) y5 y6 S2 := by
  intro m
  induction m with
  | zero =>
    intro r fu S c x5 x6 x7 x9 h1 h2 ht ha hb
    obtain ⟨fu, rfl⟩ : ∃ g, fu = g + 1 := ⟨fu - 1, by omega⟩
    refine ⟨S, x5, x6, x7, x9, modX_rf S, ha, hb, ?_⟩
    rw [zfix_s]; unfold fX8_best_51
    rw [if_pos (nI_le (by omega) (by omega))]
    rfl
  | succ m ih =>
    intro r fu S c x5 x6 x7 x9 h1 h2 ht ha hb
    obtain ⟨fu, rfl⟩ : ∃ g, fu = g + 1 := ⟨fu - 1, by omega⟩
    obtain ⟨b, S1, e1, t1, k1, -⟩ := m_tries (r := r) hw hN1 hN hu (by omega) ht
    have fr1 := frX8_tries e1
    have ht1 : tkE w N (S1.1 102) := by rw [k1]; exact tkE_row w K N u _
    have ha1 : asd w S1 := ⟨fun j hj => by rw [fr1.cell (by simp) (by omega)]; exact ha.1 j hj, fun j hj => tkE_hi ht1 hj⟩
    have x1 : modX S S1 := modX_of fr1 (by simp) (by simp) (by simp)
    have hwr : wfW (rowR w K N u r) K N := wf_row hw (by omega) (by omega)
    rw [zfix_s]; unfold fX8_best_51 fX8_best_102 fX8_best_122 fX8_best_128
    rw [if_neg (nI_ge (by omega) (by omega)), e1, zbi_s]
    rcases t1 with ⟨rfl, t1⟩ | ⟨rfl, t1⟩
    · have cn1 : nI (cn_r (rP w K N u) r) + 1 = nI (cn_r (rP w K N u) (r + 1)) := by rw [cn_t (p := rP w K N u) t1, nI_1]
      obtain ⟨g, S2, e2, h2'⟩ := m_worsts hwr k1
      have fr2 := frX8_worsts e2
      have k2 : S2.1 102 = S1.1 102 := fr2.cell (by simp) (by omega)
      have ht2 : tkE w N (S2.1 102) := by rw [k2]; exact ht1
      have ha2 : asd w S2 := ⟨fun j hj => by rw [fr2.cell (by simp) (by omega)]; exact ha1.1 j hj, fun j hj => tkE_hi ht2 hj⟩
      have x2 : modX S S2 := modX_tr x1 (modX_of fr2 (by simp) (by simp) (by simp))
      rw [if_neg one_ne, e2, zbi_s, cn1, nI_1]
      have next : ∀ c' y5 y6 y7 y9, bM w K N u R c' y5 y6 y7 y9 → ∃ S3 z5 z6 z7 z9, modX S S3 ∧ asd w S3 ∧ bM w K N u R (bs_r w K N u m (r + 1) c') z5 z6 z7 z9 ∧ zfix (fun _ _ _ _ _ _ _ _ _ _ => none) fX8_best_51 fu (nI N) (nI u) (nI R) (nI (cn_r (rP w K N u) (r + 1))) y5 y6 y7 y9 (nI (r + 1)) S2 = bE (nI N) (nI u) z5 z6 S3 := by
        intro c' y5 y6 y7 y9 hb'
        obtain ⟨S3, z5, z6, z7, z9, g1, g2, g3, g4⟩ := ih (r + 1) fu S2 c' y5 y6 y7 y9 (by omega) (by omega) ht2 ha2 hb'
        exact ⟨S3, z5, z6, z7, z9, modX_tr x2 g1, g2, g3, g4⟩
      rcases h2' with ⟨hwo, rfl⟩ | ⟨f, hwo, rfl, h3, h4⟩
      · rw [if_pos rfl, bs_f (fun h => h.2.1 hwo)]
        exact next c x5 x6 x7 x9 hb
      · obtain ⟨f1, ⟨a, b, f3⟩, f4, f5⟩ := h4 f rfl
        have hFs := FB_s (w := w) (K := K) (N := N) (u := u) (r := r) (f := f) hwo
        have hFr : fB (FB w K N u r) := by rw [hFs]; exact Fw_B hwr f
        rw [← hFs] at f3 f4 f5
        have hw0 : wf_o w K N u r ≠ none := by rw [show wf_o w K N u r = some f from hwo]; simp
        have hbr : bM w K N u R (some r) (nI r) (nI (cn_r (rP w K N u) r)) (jZ (mg_v (FB w K N u r)).1) (jZ (mg_v (FB w K N u r)).2) := Or.inr ⟨r, rfl, by omega, rfl, rfl, hFr, ⟨a, b, f3⟩, rfl, rfl⟩
        rw [if_neg one_ne, f4, f5]
        rcases hb with ⟨rfl, rfl⟩ | ⟨rb, rfl, b1, rfl, b3, b4, ⟨a', b', b5⟩, rfl, rfl⟩
        · rw [if_pos rfl, bs_t ⟨t1, hw0, fun rb h => by cases h⟩]
          exact next _ _ _ _ _ hbr
        · have bd := mv_bd hFr f3
          have bd' := mv_bd b4 b5
          have m1 := mul_bd bd.1.1 bd.1.2 (show -160 ≤ (mg_v (FB w K N u rb)).2 by omega) bd'.2.2
          have m2 := mul_bd bd'.1.1 bd'.1.2 (show -160 ≤ (mg_v (FB w K N u r)).2 by omega) bd.2.2
          rw [if_neg (nI_nm1 (by omega)), jZ_mul, jZ_mul]
          by_cases cl : lsP (FB w K N u rb) (FB w K N u r)
          · have cl' : ¬ (mg_v (FB w K N u r)).1 * (mg_v (FB w K N u rb)).2 ≤ (mg_v (FB w K N u rb)).1 * (mg_v (FB w K N u r)).2 := by unfold lsP at cl; omega
            rw [if_neg (by rw [cmp_le0, jZ_le (by omega) (by omega) (by omega) (by omega)]; exact cl'), bs_t ⟨t1, hw0, fun rb' h => by cases h; exact cl⟩]
            exact next _ _ _ _ _ hbr
          · have cl' : (mg_v (FB w K N u r)).1 * (mg_v (FB w K N u rb)).2 ≤ (mg_v (FB w K N u rb)).1 * (mg_v (FB w K N u r)).2 := by unfold lsP at cl; omega
            rw [if_pos (by rw [cmp_le0, jZ_le (by omega) (by omega) (by omega) (by omega)]; exact cl'), bs_f (fun h => cl (h.2.2 rb rfl))]
            exact next _ _ _ _ _ (Or.inr ⟨rb, rfl, b1, rfl, b3, b4, ⟨a', b', b5⟩, rfl, rfl⟩)
    · rw [if_pos rfl, bs_f (fun h => t1 h.1), nI_1]
      obtain ⟨S3, z5, z6, z7, z9, g1, g2, g3, g4⟩ := ih (r + 1) fu S1 c x5 x6 x7 x9 (by omega) (by omega) ht1 ha1 hb
      rw [cn_f (p := rP w K N u) t1] at g4
      exact ⟨S3, z5, z6, z7, z9, modX_tr x1 g1, g2, g3, g4⟩
theorem K_best : zK_best zInv := by
  intro a1 a2 S hI
  obtain ⟨hb, ⟨K, n, hw, hr⟩, hs, hc, hm⟩ := id hI
  have hK2 := hw.1.2.1
  have hK := hw.1.2.2
  have c10 : S.1 1 0 = nI K := by rw [hr.1.1, hw.1.1]
  obtain ⟨b, eT, tT⟩ := c_areTold (n := a1) (u := a2) (K := K) (by omega) hK S
  by_cases qt : ¬ tld a1 a2 K
  · obtain ⟨S2, p⟩ := m_pre hb
    have eb : b = 0 := (tf_ne tT).mpr qt
    refine ⟨-1, S, S2, ?_, ?_, zInv_no hI p⟩
    · unfold fX7_best; rw [c10, eT, zbi_s, if_pos eb]
    · unfold fX8_best; rw [zlet_s, p.1, zbv_s, p.2.1, hw.1.1, (m_rows (by omega) hK S2).2 qt, zbi_s, if_pos rfl]
  replace qt : tld a1 a2 K := Classical.not_not.mp qt
  have eb : ¬ b = 0 := fun h => (tf_ne tT).mp h qt
  obtain ⟨N, U, rfl, rfl, n1, n2, u1, u2⟩ := tks_of qt.1
  have pb : N ^ (K - 1) ≤ 2500 := by have := qt.2; rw [nI_clamp (by omega)] at this; exact this
  have rws : ∀ S2, fX8_rows (nI N) (nI U) (nI K) S2 = some (nI (N ^ (K - 1)), S2) := fun S2 => by
    have := (m_rows (n := nI N) (u := nI U) (by omega) hK S2).1 qt
    rw [nI_clamp (by omega)] at this; exact this
  obtain ⟨Sc, ec, rc⟩ := c_copy hw hr
  have frc := frX6_copyFrom ec
  obtain ⟨Ss, es, cs⟩ := c_start (u := U) hw (tkA_rf _) n1 n2 (by omega) rc
  have frs := frX3_start es
  obtain ⟨S0, q0, h0⟩ := c_best (u := U) (R := N ^ (K - 1)) hw n1 n2 (by omega) pb (N ^ (K - 1)) 0 zF Ss none (-1) 0 (by omega) (by unfold zF; omega) cs (Or.inl ⟨rfl, rfl⟩)
  have q0' : clsFr S S0 := clsFr_tr (clsFr_tr (cls_of frc (fun k hk => by simp; omega)) (cls_of frs (fun k hk => by simp; omega))) q0
  have st : fX7_best (nI N) (nI U) S = zfix (fun _ _ _ _ _ _ _ _ => none) fX7_best_50 zF (nI N) (nI U) (nI (N ^ (K - 1))) 0 (-1) 0 0 Ss := by
    unfold fX7_best
    rw [c10, eT, zbi_s, if_neg eb, ec, zbv_s, es, zbi_s]
  have mod : ∀ S1 S2, preM S1 S2 → (∀ k j, 101 ≤ k → S1.1 k j = S.1 k j) → ∃ Sx y5 y6 y7 y9, modX S2 Sx ∧ asd (Gf S) Sx ∧ bM (Gf S) K N U (N ^ (K - 1)) (bs_r (Gf S) K N U (N ^ (K - 1)) 0 none) y5 y6 y7 y9 ∧ fX8_best (nI N) (nI U) S1 = bE (nI N) (nI U) y5 y6 Sx := by
    intro S1 S2 p h101
    have hG1 : Gf S1 = Gf S := Gf_eq (h101 101 4 (by omega)) (funext fun j => h101 102 j (by omega))
    have k2 : S2.1 102 = Gf S := by rw [p.2.1, hG1]
    obtain ⟨Sa, ea, ka, aa, xa⟩ := m_asidew S2
    rw [k2] at ka aa
    obtain ⟨Sx, y5, y6, y7, y9, xx, ax, hx, ex⟩ := m_best (w := Gf S) (u := U) (R := N ^ (K - 1)) hw n1 n2 (by omega) pb (N ^ (K - 1)) 0 zF Sa none (-1) (-1) 0 1 (by omega) (by unfold zF; omega) (by rw [ka]; exact tkE_rf _ _) aa (Or.inl ⟨rfl, rfl⟩)
    have e : fX8_best (nI N) (nI U) S1 = zfix (fun _ _ _ _ _ _ _ _ _ _ => none) fX8_best_51 zF (nI N) (nI U) (nI (N ^ (K - 1))) 0 (-1) (-1) 0 1 0 Sa := by
      unfold fX8_best
      rw [zlet_s, p.1, zbv_s, k2, hw.1.1, rws, zbi_s, if_neg (nI_nm1 (by omega)), ea, zbv_s]
    exact ⟨Sx, y5, y6, y7, y9, modX_tr xa xx, ax, hx, e.trans ex⟩
  rcases h0 with ⟨hno, hf⟩ | ⟨r, hrR, hso, hf⟩
  · obtain ⟨S2, p⟩ := m_pre (S := S0) (by rw [q0' 101 4 (by omega)]; exact hb)
    obtain ⟨Sx, y5, y6, y7, y9, xx, ax, hx, ex⟩ := mod S0 S2 p (fun k j h => q0' k j (by omega))
    rw [hno] at hx
    rcases hx with ⟨-, rfl⟩ | ⟨r', hx, -⟩
    · obtain ⟨S3, e3, k3, x3⟩ := m_backw ax
      have hG1 : Gf S0 = Gf S := Gf_eq (q0' 101 4 (by omega)) (funext fun j => q0' 102 j (by omega))
      refine ⟨-1, S0, S3, st.trans hf, ?_, zInv_query hI q0' p (mod_X (modX_tr xx x3) (by rw [k3, p.2.1, hG1]))⟩
      rw [ex]; unfold bE; rw [e3, zbv_s, if_pos rfl]
    · cases hx
  · obtain ⟨Sa, ea, ha, fa⟩ := mutC hc hw hr (S0 := S0) q0'
    have hf8 : ∀ i, dgt N K r i < 8 := fun i => by have := dgt_lt (N := N) (K := K) (r := r) (i := i) (by omega); omega
    obtain ⟨S1, e1, f1, f2⟩ := c_layRow (b := 1) (K := K) (N := N) (u := U) (x := nI (pq_n (dgt N K r) K)) (off := dgt N K r) hK2 hK (by omega) (by omega) (by omega) (by unfold dgt; rw [if_pos rfl]) (fun i h1 h2 => ⟨by rw [of_nI (pq_lt2 hf8 hK), pq_dig hf8 K i h1 h2], dgt_lt (by omega)⟩) Sa (by rw [fa 1 0 (by omega), q0' 1 0 (by omega), c10])
    have h101 : ∀ k j, 101 ≤ k → S1.1 k j = S.1 k j := fun k j h => by
      rw [show S1.1 k j = (zsi Sa 1 6 (nI N)).1 k j from (f1 k j (by simp; omega) (by simp)).1, zsi_n _ _ (by omega), fa k j (by omega), q0' k j (by omega)]
    obtain ⟨S2, p⟩ := m_pre (S := S1) (by rw [h101 101 4 (by omega)]; exact hb)
    have hG1 : Gf S1 = Gf S := Gf_eq (h101 101 4 (by omega)) (funext fun j => h101 102 j (by omega))
    obtain ⟨Sx, y5, y6, y7, y9, xx, ax, hx, ex⟩ := mod S1 S2 p h101
    rw [hso] at hx
    rcases hx with ⟨hx, -⟩ | ⟨r', hx', -, rfl, rfl, -⟩
    · cases hx
    · cases hx'
      obtain ⟨Sy, ey, ky, xy⟩ := m_backw ax
      have xz := modX_tr xx xy
      obtain ⟨Sb, ebk, hmb⟩ := mutM hm h101 p (S2' := Sy) xz.2.2.1 xz.2.1 (by rw [ky, p.2.1, hG1])
      have frb := frX8_keep ebk
      have kb : Sb.1 102 = Gf S := by rw [frb.cell (by simp) (by omega), ky]
      obtain ⟨S4, S5, e4, e5, k5, -⟩ := m_lay (w := Gf S) (u := U) (r := r) (S := Sb) hw n1 n2 (by omega) (by omega) (by rw [kb]; exact tkE_rf _ _)
      have fr4 := frX8_offsets e4
      have fr5 := frX8_laysRow e5
      refine ⟨nI (cn_r (rP (Gf S) K N U) r), S1, S5, ?_, ?_, row_end (r := r) (U := U) hI hw hr n1 n2 q0' ha fa f1 f2 p hmb ?_ (fun k hk => ?_) (zFr_trans (zFr_mono fr4 (by simp) (by simp)) (zFr_mono fr5 (by simp) (by simp))) k5⟩
      · rw [st]
        refine hf.trans ?_
        rw [ea, zbv_s, e1, zbv_s]
      · rw [ex]; unfold bE
        rw [ey, zbv_s, if_neg (nI_nm1 (by omega)), ebk, zbv_s, e4, zbv_s, e5, zbv_s]
      · rw [frb.slot (by simp) (by simp), xz.2.2.2]; exact p.2.2.1
      · rw [frb.cell (by simp; omega) (by omega), xz.1 k hk]
